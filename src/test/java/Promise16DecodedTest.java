/** Promise 16 with "Terms", 4, DECODED, and 1: numbers that go round, and WIDE ones that do not. */
public final class Promise16DecodedTest {
    private static final int MIN = Integer.MIN_VALUE;
    private static final int MAX = Integer.MAX_VALUE;

    public static void main(String[] args) {
        Due.run(Promise16DecodedTest.class);
    }

    private static Press decoded(Forge forge, int numbers) {
        Press x = forge.fed();
        Due.due("decode()", x.decode(), numbers);
        return x;
    }

    static void anyNumberMayCome() {
        decoded(new Forge(0, 1, 0).frame(MAX), 1).isRow(MAX);
        decoded(new Forge(0, 1, 0).frame(MIN), 1).isRow(MIN);
        decoded(new Forge(0, 4, 0).frame(8388608).frame(-8388609).frame(MIN).frame(MAX), 4)
            .isRow(8388608, -8388609, MIN, MAX);
    }

    static void theShiftGoesRound() {
        decoded(new Forge(0, 2, 0).shift(23).frame(-1).frame(3), 2).isRow(-8388608, 25165824);
        decoded(new Forge(0, 3, 0).shift(23).frame(255).frame(256).frame(257), 3).isRow(2139095040, MIN, -2139095040);
        decoded(new Forge(0, 2, 0).shift(1).frame(MAX).frame(MIN), 2).isRow(-2, 0);
        decoded(new Forge(0, 2, 0).shift(23).frame(MAX).frame(512), 2).isRow(-8388608, 0);
    }

    static void jointIsUndone() {
        decoded(new Forge(5, 3, 0).frame(5, 7).frame(-5, 7).frame(1, 0), 6).isRow(10, 5, 5, 10, 1, 0);
    }

    static void jointGoesRound() {
        // R = second - (D >> 1), L = D + R.
        decoded(new Forge(5, 1, 0).frame(MAX, MIN), 2).isRow(-1073741824, 1073741825);
        decoded(new Forge(5, 1, 0).frame(MIN, MAX), 2).isRow(1073741823, -1073741825);
        decoded(new Forge(5, 1, 0).frame(MAX, MAX), 2).isRow(-1073741825, 1073741824);
    }

    static void jointIsUndoneAheadOfTheShift() {
        decoded(new Forge(5, 1, 0).shift(4).frame(-5, 7), 2).isRow(80, 160);
    }

    static void theSecondOfTwinsIsLikeTheFirst() {
        decoded(new Forge(3, 3, 0).frame(5).frame(MIN).frame(-1), 6).isRow(5, 5, MIN, MIN, -1, -1);
        decoded(new Forge(3, 1, 0).shift(3).frame(5), 2).isRow(40, 40);
        decoded(new Forge(3, 600, 0).silence(600), 1200);
    }

    static void aRestIsMaxAtMost() {
        // E 1, A2 2: LOW is MAX, HIGH one more, the middle too; REST' is MAX, or the least of all.
        for (boolean below : new boolean[] {false, true}) {
            Forge forge = new Forge(0, 8, 1);
            for (int ones : new int[] {3, 3, 3, 3, 0, 0, 0}) {
                forge.symbol(0, ones, ones, false);
            }
            Due.due("M0", forge.median(0, 0) >> 4, 0);
            Due.due("M1", forge.median(0, 1) >> 4, 1);
            Due.due("M2", forge.median(0, 2) >> 4, 1);
            forge.symbol(0, 2 + (2147483647L - 3) / 2, 2147483647L, below);
            Press x = decoded(forge, 8);
            Due.due("row(7)", x.row(7), below ? MIN : MAX);
        }
    }

    static void withoutAnErrorARestIsMaxAtMostToo() {
        // LOW is MAX and HIGH one more: the bit takes V above all REST.
        Forge forge = new Forge(0, 8, 0);
        forge.silence(0);
        for (int ones : new int[] {3, 3, 3, 3, 0, 0, 0}) {
            forge.symbol(0, ones, ones, false);
        }
        forge.symbol(0, 2 + (2147483647L - 3) / 2, 2147483648L, false);
        Press x = decoded(forge, 8);
        Due.due("row(7)", x.row(7), MAX);
    }

    static void aValueGoesRound() {
        // The WEIGHT is 7: 7 * MAX + 512 is 14680063 times 1024 and some, and MAX more goes round.
        Press x = decoded(new Forge(0, 3, 0).pass(1, 7).frame(MAX).frame(MAX).frame(MAX), 3);
        x.isRow(MAX, MAX, MAX + 14680064);
        Due.due("weight", x.weight(0, 0), 14);
    }

    static void aGuessIsWide() {
        // 32 bits would make 7 * MAX + 512 a number of 504.
        decoded(new Forge(0, 3, 0).pass(1, 7).frame(MAX).frame(MAX).frame(5), 3).isRow(MAX, MAX, 14680069);
        decoded(new Forge(0, 3, 0).pass(1, 7).frame(MIN).frame(MIN).frame(5), 3).isRow(MIN, MIN, -14680059);
    }

    static void seventeenGoesRound() {
        // 2 * MAX - 100 goes round to -102; (14 * -102 + 512) >> 10 is -1.
        Press x = decoded(new Forge(0, 4, 0).pass(17, 7).frame(100).frame(100).frame(MAX - 1).frame(7), 4);
        x.isRow(100, 100, MAX, 6);
        Due.due("weight", x.weight(0, 0), 7);
    }

    static void eighteenGoesRound() {
        // MIN + ((MIN + 100) >> 1) goes round to 1073741874; 7 times that is 7340032 times 1024 and
        // some. Then 7340035 - MIN goes round to -2140143613, and B is below 0.
        Press x = decoded(new Forge(0, 4, 0).pass(18, 7).frame(-100).frame(MIN).frame(3).frame(9), 4);
        x.isRow(-100, MIN, 7340035, 9 - 14529536);
        Due.due("weight", x.weight(0, 0), 7);
    }

    static void aGuessThatIsTooWideIsTakenRound() {
        // A WEIGHT of -1024 and a B of MIN make 2147483648, which is MIN.
        Chain chain = new Chain(160, 0);
        for (int i = 0; i < 151; i++) {
            chain.rest(i % 2 == 0 ? 1000 : -1001);
        }
        Due.due("weight", chain.weight, -1024);
        Due.yes("above none", chain.last > 0);
        chain.value(MIN);
        for (int i = 0; i < 8; i++) {
            chain.rest(i + 1);
        }
        Press x = decoded(chain.forge, 160);
        Due.due("row(151)", x.row(151), MIN);
        Due.due("row(152)", x.row(152), MIN + 1);
        Due.due("row(153)", x.row(153), MAX + 2);
        Due.due("weight", x.weight(0, 0), chain.weight);
        Due.due("row(159)", x.row(159), chain.last);
    }

    static void signsAreOfNumbersThatWentRound() {
        // MAX and 14680063 of the guess are below 0 together: the next REST above 0 makes it fall.
        Press x = decoded(new Forge(0, 4, 0).pass(1, 7).frame(MAX).frame(MAX).frame(MAX).frame(1), 4);
        Due.due("weight", x.weight(0, 0), 7);
    }

    static void mediansAreWide() {
        // Far RESTS one after the other: M2 grows beyond 32 bits, by 5 of 32 each time.
        Forge forge = new Forge(0, 150, 0);
        for (int i = 0; i < 150; i++) {
            forge.frame(i % 2 == 0 ? MAX : MIN);
        }
        Press x = decoded(forge, 150);
        Due.yes("M2 is beyond", x.median(0, 2) > 4294967296L);
        for (int k = 0; k < 3; k++) {
            Due.due("M" + k, x.median(0, k), forge.median(0, k));
        }
        Due.due("row(148)", x.row(148), MAX);
        Due.due("row(149)", x.row(149), MIN);
    }

    static void mediansOfALongStreamAreWide() {
        Forge forge = new Forge(0, 600, 0);
        for (int i = 0; i < 600; i++) {
            forge.frame(MAX);
        }
        Press x = decoded(forge, 600);
        for (int k = 0; k < 3; k++) {
            Due.due("M" + k, x.median(0, k), forge.median(0, k));
        }
        Due.yes("M0 is beyond", x.median(0, 0) > 4294967296L);
        Due.due("row(599)", x.row(599), MAX);
    }

    static void termsBelowNoneHaveNoBWhereOneChannelIsCoded() {
        for (int flags : new int[] {0, 3}) {
            for (int term : new int[] {-1, -3}) {
                Press x = decoded(new Forge(flags, 3, 0).pass(term, 7).frame(5000).frame(5000).frame(5000), flags == 0 ? 3 : 6);
                Due.due("row", x.row(flags == 0 ? 2 : 4), 5000);
                Due.due("weight", x.weight(0, 0), 0);
            }
        }
    }

    static void termsBelowNoneSeeTheOtherChannel() {
        // -1: the second CHANNEL learns at once, the first one a FRAME later.
        Press x = decoded(new Forge(1, 2, 0).pass(-1, 7).frame(1000, 1000).frame(1000, 1000), 4);
        x.isRow(1000, 1000, 1000, 1007);
        Due.due("weight(0, 0)", x.weight(0, 0), 7);
        Due.due("weight(0, 1)", x.weight(0, 1), 14);
        // -3: both a FRAME later.
        x = decoded(new Forge(1, 3, 0).pass(-3, 7).frame(1000, 2000).frame(1000, 2000).frame(1000, 2000), 6);
        x.isRow(1000, 2000, 1000, 2000, 1014, 2007);
        Due.due("weight(0, 0)", x.weight(0, 0), 14);
        Due.due("weight(0, 1)", x.weight(0, 1), 14);
    }

    static void aSilenceGoesOnGuessing() {
        // V of -1 is 0, so M0 stays 0 while the WEIGHT grows; with 1024 each VALUE is the last one.
        Chain chain = new Chain(170, 0);
        for (int i = 0; i < 148; i++) {
            chain.rest(-1);
        }
        Due.due("weight", chain.weight, 1024);
        int level = chain.last;
        chain.forge.silence(22);
        Press x = decoded(chain.forge, 170);
        Due.due("row(147)", x.row(147), level);
        Due.due("row(148)", x.row(148), level);
        Due.due("row(169)", x.row(169), level);
        Due.due("FRAMES passed over", x.look(7), 22);
    }
}
