/** Promise 19: weight. */
public final class Promise19WeightTest {
    public static void main(String[] args) {
        Due.run(Promise19WeightTest.class);
    }

    private static Press learned() {
        Press x = Press.with(5, 6, 7, -8, 9, 10);
        x.pass(1, 7);
        x.pass(-1, 2);
        x.encode(2, false, 0);
        return x;
    }

    static void aheadOfAnyThereIsNone() {
        Press x = Press.fresh();
        x.pass(1, 7);
        Due.due("weight(0, 0)", x.weight(0, 0), 0);
        Due.due("weight(0, 1)", x.weight(0, 1), 0);
    }

    static void ofEachPassAndChannel() {
        Press x = learned();
        // First: 7 by 5, 9 by 7: twice one sign. Second: -8 by 6, 10 by -8: twice the other.
        Due.due("weight(0, 0)", x.weight(0, 0), 14);
        Due.due("weight(0, 1)", x.weight(0, 1), -14);
        // First: 7 by 6, 9 by -8. Second: 6 by 5, -8 by 7, 10 by 9.
        Due.due("weight(1, 0)", x.weight(1, 0), 0);
        Due.due("weight(1, 1)", x.weight(1, 1), 2);
    }

    static void passesThatAreNone() {
        Press x = learned();
        for (int pass : new int[] {-1, -2, 2, 3, 7, 8, 9, 16, Integer.MIN_VALUE, Integer.MAX_VALUE}) {
            Due.due("weight(" + pass + ", 0)", x.weight(pass, 0), 0);
            Due.due("weight(" + pass + ", 1)", x.weight(pass, 1), 0);
        }
    }

    static void channelsThatAreNone() {
        Press x = learned();
        for (int channel : new int[] {-1, -2, 2, 3, Integer.MIN_VALUE, Integer.MAX_VALUE}) {
            Due.due("weight(0, " + channel + ")", x.weight(0, channel), 0);
            Due.due("weight(1, " + channel + ")", x.weight(1, channel), 0);
        }
    }

    static void ofOneChannelThereIsNoSecond() {
        Press x = learned();
        x.encode(1, false, 0);
        Due.yes("weight(0, 0)", x.weight(0, 0) != 0);
        Due.due("weight(0, 1)", x.weight(0, 1), 0);
    }

    static void ofTwinsOneChannelIsCoded() {
        Press x = learned();
        x.setRow(5, 5, 6, 6);
        x.encode(2, true, 0);
        Due.due("weight(0, 0)", x.weight(0, 0), 7);
        Due.due("weight(0, 1)", x.weight(0, 1), 0);
        Due.due("weight(1, 0)", x.weight(1, 0), 0);
        Due.due("weight(1, 1)", x.weight(1, 1), 0);
    }

    static void eightPasses() {
        Press x = Press.with(101, 103);
        for (int p = 0; p < 8; p++) {
            x.pass(1, Math.min(7, p + 1));
        }
        x.encode(1, false, 0);
        for (int p = 0; p < 8; p++) {
            Due.due("weight(" + p + ", 0)", x.weight(p, 0), Math.min(7, p + 1));
        }
        Due.due("weight(8, 0)", x.weight(8, 0), 0);
    }

    static void behindALongerPlanThereIsNoneOfIt() {
        Press x = learned();
        x.unpass();
        x.pass(1, 7);
        x.encode(2, false, 0);
        Due.due("weight(0, 1)", x.weight(0, 1), -14);
        Due.due("weight(1, 1)", x.weight(1, 1), 0);
        x.unpass();
        Due.due("weight(0, 1)", x.weight(0, 1), -14);
        x.encode(2, false, 0);
        Due.due("weight(0, 1)", x.weight(0, 1), 0);
    }

    static void thePassesOfTheStreamCount() {
        Press x = learned();
        new Forge(0, 3, 0).pass(2, 1).pass(2, 1).pass(1, 5).frame(5).frame(6).frame(7).feed(x);
        Due.due("decode()", x.decode(), 3);
        Due.due("weight(0, 0)", x.weight(0, 0), 1);
        Due.due("weight(2, 0)", x.weight(2, 0), 10);
        Due.due("weight(2, 1)", x.weight(2, 1), 0);
        Due.due("weight(0, 1)", x.weight(0, 1), 0);
    }

    static void aFaultAndARefusedEncodingLeaveThem() {
        Press x = learned();
        new Forge(1, 9, 0).pass(2, 1).frame(5, 9).frame(6, 8).frame(7, 7).feed(x);
        Due.due("decode()", x.decode(), -4);
        x.encode(3, false, 0);
        Due.due("weight(0, 0)", x.weight(0, 0), 14);
        Due.due("weight(0, 1)", x.weight(0, 1), -14);
        Due.due("weight(1, 1)", x.weight(1, 1), 2);
    }

    static void fromMinusTenTwentyFourToTenTwentyFour() {
        for (int sign = -1; sign <= 1; sign += 2) {
            Chain chain = new Chain(200, 0);
            for (int i = 0; i < 200; i++) {
                chain.rest(i % 2 == 0 || sign > 0 ? 1000 : -1000);
            }
            Press x = chain.forge.fed();
            Due.due("decode()", x.decode(), 200);
            Due.due("weight(0, 0)", x.weight(0, 0), sign * 1024);
        }
    }
}
