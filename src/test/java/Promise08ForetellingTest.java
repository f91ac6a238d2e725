import java.util.ArrayList;
import java.util.Arrays;
import java.util.List;
import java.util.Random;

/** Promise 8 with "Terms", FORETELLING: what each PASS guesses, leaves and learns. */
public final class Promise08ForetellingTest {
    public static void main(String[] args) {
        Due.run(Promise08ForetellingTest.class);
    }

    private static Press encoded(int channels, int[] plan, int... row) {
        Press x = Press.with(row);
        for (int i = 0; i + 1 < plan.length; i += 2) {
            x.pass(plan[i], plan[i + 1]);
        }
        x.encode(channels, false, 0);
        return x;
    }

    private static void restsAre(int[] plan, int[] row, int... rests) {
        Press x = encoded(1, plan, row);
        Forge due = new Forge(0, row.length, 0);
        for (int i = 0; i + 1 < plan.length; i += 2) {
            due.pass(plan[i], plan[i + 1]);
        }
        for (int rest : rests) {
            due.frame(rest);
        }
        Due.same("stream of " + Arrays.toString(row), Arrays.toString(x.stream(0)), Arrays.toString(due.tape()));
        x.take(0);
        x.cut(0);
        x.decode();
        x.isRow(row);
    }

    private static int[] plan(int... plan) {
        return plan;
    }

    private static int[] row(int... row) {
        return row;
    }

    static void withoutPassesTheRestIsTheValue() {
        restsAre(plan(), row(100, 100, -7, 1), 100, 100, -7, 1);
    }

    static void aheadOfTheFirstFrameInputsAreNone() {
        for (int term : Promise06PassTest.TERMS) {
            restsAre(plan(term, 7), row(77), 77);
            Due.due("weight", encoded(1, plan(term, 7), 77).weight(0, 0), 0);
        }
    }

    static void theWeightGrowsWhereBothHaveOneSign() {
        // 7 * 101 + 512 and 14 * 101 + 512 are 1 times 1024 and some.
        restsAre(plan(1, 7), row(101, 101, 101, 101), 101, 101, 100, 100);
        Due.due("weight", encoded(1, plan(1, 7), 101, 101, 101, 101).weight(0, 0), 21);
        Due.due("weight", encoded(1, plan(1, 7), -101, -101, -101).weight(0, 0), 14);
    }

    static void theWeightFallsWhereTheSignsDiffer() {
        Due.due("weight", encoded(1, plan(1, 5), 101, -101, 101, -101).weight(0, 0), -15);
        Due.due("weight", encoded(1, plan(1, 5), -101, 101).weight(0, 0), -5);
        // -5 * -101 + 512 is 1017, -5 * -301 + 512 is 2017: 0 and 1.
        restsAre(plan(1, 5), row(101, -101, 101), 101, -101, 101);
        restsAre(plan(1, 5), row(101, -301, 7), 101, -301, 6);
    }

    static void aRestOrABOfNoneLeavesTheWeight() {
        Due.due("B is 0", encoded(1, plan(1, 7), 0, 5, 0, 5).weight(0, 0), 0);
        Due.due("the REST is 0", encoded(1, plan(1, 7), 5, 0, 0, 0).weight(0, 0), 0);
        Due.due("neither is", encoded(1, plan(1, 7), 5, 5, 0, 5).weight(0, 0), 7);
    }

    static void eachTermSeesItsFrame() {
        for (int term = 1; term <= 8; term++) {
            int[] row = new int[term + 2];
            row[0] = 9;
            row[term] = 8;
            Due.due("term " + term, encoded(1, plan(term, 3), row).weight(0, 0), 3);
            row[term] = -8;
            Due.due("term " + term, encoded(1, plan(term, 3), row).weight(0, 0), -3);
            row[term] = 0;
            row[term + 1] = 8;
            Due.due("term " + term, encoded(1, plan(term, 3), row).weight(0, 0), 0);
        }
    }

    static void eightAgoIsTheFarthest() {
        int[] row = Promise08EncodeTest.filled(8, 5);
        Due.due("eight frames", encoded(1, plan(8, 7), row).weight(0, 0), 0);
        row = Promise08EncodeTest.filled(9, 5);
        Due.due("nine frames", encoded(1, plan(8, 7), row).weight(0, 0), 7);
        row = Promise08EncodeTest.filled(20, 5);
        Due.due("twenty frames", encoded(1, plan(8, 7), row).weight(0, 0), 84);
    }

    static void seventeenGoesOnStraight() {
        // At 2 behind 4 B is 0, at 2 behind 5 it is -1.
        Due.due("B is 0", encoded(1, plan(17, 7), 4, 2, 9).weight(0, 0), 7);
        Due.due("B is -1", encoded(1, plan(17, 7), 5, 2, 9).weight(0, 0), 0);
        // 2 * 1500 - 1001 is 1999; 7 * 1999 + 512 is 14 times 1024 and some.
        restsAre(plan(17, 7), row(1001, 1500, 2000), 1001, 1500, 1986);
    }

    static void eighteenGoesOnByHalf() {
        // (2 - 5) >> 1 is -2, so B is 0; (2 - 4) >> 1 is -1, so B is 1.
        Due.due("B is 0", encoded(1, plan(18, 7), 5, 2, 9).weight(0, 0), 7);
        Due.due("B is 1", encoded(1, plan(18, 7), 4, 2, 9).weight(0, 0), 14);
        Due.due("B is -1", encoded(1, plan(18, 7), 7, 2, 9).weight(0, 0), 0);
        // 1500 + 249 is 1749; 7 * 1749 + 512 is 12 times 1024 and some.
        restsAre(plan(18, 7), row(1001, 1500, 2000), 1001, 1500, 1988);
    }

    static void minusOneSeesTheOtherChannel() {
        Press x = encoded(2, plan(-1, 3), 9, 0, 4, 5);
        Due.due("the first sees the second one frame ago", x.weight(0, 0), 0);
        Due.due("the second sees the first of this frame", x.weight(0, 1), 3);
        x = encoded(2, plan(-1, 3), 9, 2, 4, 5);
        Due.due("first", x.weight(0, 0), 3);
        Due.due("second", x.weight(0, 1), 6);
        x = encoded(2, plan(-1, 3), 9, -2, 4, 5);
        Due.due("first", x.weight(0, 0), -3);
        Due.due("second", x.weight(0, 1), 0);
    }

    static void minusThreeSeesTheOtherChannelOneFrameAgo() {
        Press x = encoded(2, plan(-3, 3), 9, 2, -4, 5);
        Due.due("first", x.weight(0, 0), -3);
        Due.due("second", x.weight(0, 1), 3);
        x = encoded(2, plan(-3, 3), 9, 0, 4, 5);
        Due.due("first", x.weight(0, 0), 0);
        Due.due("second", x.weight(0, 1), 3);
        x = encoded(2, plan(-3, 3), 9, 8);
        Due.due("first", x.weight(0, 0), 0);
        Due.due("second", x.weight(0, 1), 0);
    }

    static void termsBelowNoneSeeNothingWhereOneChannelIsCoded() {
        for (int term : new int[] {-1, -3}) {
            restsAre(plan(term, 7), row(501, 501, 501), 501, 501, 501);
            Due.due("one", encoded(1, plan(term, 7), 501, 501, 501).weight(0, 0), 0);
            Press twin = encoded(2, plan(term, 7), 501, 501, 501, 501, 501, 501);
            Due.due("FLAGS", twin.look(2), 3);
            Due.due("twin", twin.weight(0, 0), 0);
            Due.due("twin", twin.weight(0, 1), 0);
        }
    }

    static void theChannelsLearnApart() {
        Press x = encoded(2, plan(1, 7), 5, 5, 5, -5, 5, 0);
        Due.due("first", x.weight(0, 0), 14);
        Due.due("second", x.weight(0, 1), -7);
    }

    static void aGuessIsRoundedAtTheHalf() {
        // The WEIGHT is 1: 511, 512, -512, -513 of 1024 are 0, 1, 0, -1.
        restsAre(plan(1, 1), row(5, 511, 20), 5, 511, 20);
        restsAre(plan(1, 1), row(5, 512, 20), 5, 512, 19);
        restsAre(plan(1, 1), row(-5, -512, 20), -5, -512, 20);
        restsAre(plan(1, 1), row(-5, -513, 20), -5, -513, 21);
    }

    static void theWeightIsTenTwentyFourAtMost() {
        int[] ramp = new int[200];
        for (int i = 0; i < ramp.length; i++) {
            ramp[i] = 1000 * (i + 1);
        }
        Due.due("146 times 7", encoded(1, plan(1, 7), Arrays.copyOf(ramp, 147)).weight(0, 0), 1022);
        Due.due("147 times 7", encoded(1, plan(1, 7), Arrays.copyOf(ramp, 148)).weight(0, 0), 1024);
        Due.due("and stays", encoded(1, plan(1, 7), ramp).weight(0, 0), 1024);
        ramp[199] = 5;
        Due.due("and falls from there", encoded(1, plan(1, 7), ramp).weight(0, 0), 1017);
    }

    static void theWeightIsMinusTenTwentyFourAtLeast() {
        int[] swing = new int[200];
        for (int i = 0; i < swing.length; i++) {
            swing[i] = i % 2 == 0 ? 1000 * (i + 1) : -1000 * (i + 1);
        }
        Due.due("146 times 7", encoded(1, plan(1, 7), Arrays.copyOf(swing, 147)).weight(0, 0), -1022);
        Due.due("147 times 7", encoded(1, plan(1, 7), Arrays.copyOf(swing, 148)).weight(0, 0), -1024);
        Due.due("and stays", encoded(1, plan(1, 7), swing).weight(0, 0), -1024);
        swing[199] = 8000000;
        Due.due("and grows from there", encoded(1, plan(1, 7), swing).weight(0, 0), -1017);
    }

    static void eachPassTakesWhatTheOneBeforeItLeaves() {
        restsAre(plan(1, 7, 1, 7), row(101, 101, 101, 101), 101, 101, 99, 99);
        Press x = encoded(1, plan(1, 7, 1, 7), 101, 101, 101, 101);
        Due.due("weight(0, 0)", x.weight(0, 0), 21);
        Due.due("weight(1, 0)", x.weight(1, 0), 21);
    }

    static void eachPassHasItsOwnInputs() {
        // At the fourth the first PASS sees 100001, the second one 99317, which it had at the third.
        restsAre(plan(1, 7, 1, 7), row(100001, 100001, 100001, 100001), 100001, 100001, 98633, 97276);
    }

    static void eachChannelHasItsOwnInputs() {
        int[] row = new int[40];
        for (int i = 0; i < row.length; i++) {
            row[i] = i % 2 == 0 ? 5 : -5;
        }
        for (int term = 1; term <= 8; term++) {
            Press x = encoded(2, plan(term, 7), row);
            Due.due("first of " + term, x.weight(0, 0), 7 * (20 - term));
            Due.due("second of " + term, x.weight(0, 1), 7 * (20 - term));
        }
        Press x = encoded(2, plan(-3, 7), row);
        Due.due("first of -3", x.weight(0, 0), -7 * 19);
        Due.due("second of -3", x.weight(0, 1), -7 * 19);
        x = encoded(2, plan(-1, 7), row);
        Due.due("first of -1", x.weight(0, 0), -7 * 19);
        Due.due("second of -1", x.weight(0, 1), -7 * 20);
    }

    /** Held against the document's second writing. */
    private static Press agrees(int[] row, int[] plan, int error) {
        Press x = Press.with(row);
        Mirror mirror = new Mirror();
        for (int sample : row) {
            mirror.row.add(sample);
        }
        for (int i = 0; i < plan.length; i += 2) {
            x.pass(plan[i], plan[i + 1]);
            mirror.plan.add(new int[] {plan[i], plan[i + 1]});
        }
        Due.due("encode", x.encode(2, false, error), mirror.encode(2, false, error));
        Due.same("stream", Arrays.toString(x.stream(0)), mirror.pressed.get(0).toString());
        for (int p = 0; p < plan.length / 2; p++) {
            Due.due("weight of the first", x.weight(p, 0), mirror.passes.weight[p][0]);
            Due.due("weight of the second", x.weight(p, 1), mirror.passes.weight[p][1]);
        }
        return x;
    }

    static void eightPassesInTwoChannels() {
        int[] row = new int[120];
        for (int i = 0; i < row.length; i++) {
            row[i] = (i * i * 31 + i * 7919) % 200001 - 100000;
        }
        int[][] plans = {
            {1, 1, 2, 2, 3, 3, 4, 4, 5, 5, 6, 6, 7, 7, 8, 7},
            {-1, 7, -3, 7, 17, 7, 18, 7, -1, 3, -3, 3, 8, 3, 1, 3},
            {18, 5, 17, 4, -3, 3, -1, 2, 7, 1, 1, 6, 17, 7, -1, 7}};
        for (int[] plan : plans) {
            agrees(row, plan, 0);
            agrees(row, plan, 300);
        }
    }

    static void aPassLearnsByTheInputOfTheOneBehindIt() {
        // At the third both guess 7, so the REST is 0; the first PASS still has 7 left.
        Press x = encoded(1, plan(1, 7, 1, 7), 1001, 1001, 14);
        Due.due("weight(0, 0)", x.weight(0, 0), 14);
        Due.due("weight(1, 0)", x.weight(1, 0), 7);
        // With 10 the REST is -4, what the first PASS leaves is 3.
        x = encoded(1, plan(1, 7, 1, 7), 1001, 1001, 10);
        Due.due("weight(0, 0)", x.weight(0, 0), 14);
        Due.due("weight(1, 0)", x.weight(1, 0), 0);
    }

    static void eachPassHasItsOwnDelta() {
        Press x = encoded(1, plan(1, 1, 1, 2, 1, 3, 1, 4, 1, 5, 1, 6, 1, 7, 1, 1), 100, 100);
        for (int p = 0; p < 7; p++) {
            Due.due("weight " + p, x.weight(p, 0), p + 1);
        }
        Due.due("weight 7", x.weight(7, 0), 1);
    }

    static void withAnErrorTheInputsAreThoseThatTheReaderHas() {
        // Only if the writer goes on with what the reader knows does the second stream put it right.
        for (int term : Promise06PassTest.TERMS) {
            for (int error : new int[] {1, 5, 100, 65535}) {
                int[] row = new int[80];
                for (int i = 0; i < row.length; i++) {
                    row[i] = (i * 7919 + i * i * 31) % 60001 - 30000;
                }
                Press x = Press.with(row);
                x.pass(term, 7);
                x.pass(1, 3);
                x.encode(2, false, error);
                Due.yes("some are off", x.look(9) > 0);
                x.take(0);
                x.take(1);
                x.cut(0);
                Due.due("decodeBoth()", x.decodeBoth(), 80);
                x.isRow(row);
            }
        }
    }

    static void guessesThatGoRound() {
        // WEIGHTS trained by a still sound, eight PASSES in a row, then noise: 32 bits overflow.
        Random random = new Random(5);
        int[] row = new int[800];
        for (int i = 0; i < row.length; i++) {
            row[i] = i < 280 ? 500001 + i % 2 : random.nextInt(16777216) - 8388608;
        }
        int[] plan = {17, 7, 17, 7, 17, 7, 17, 7, 17, 7, 17, 7, 17, 7, 17, 7};
        Press x = agrees(row, plan, 0);
        x.take(0);
        x.cut(0);
        Due.due("decode()", x.decode(), 800);
        x.isRow(row);
        Due.yes("a REST would have more than 32 bits", widest(row, plan) > 4294967296L);
    }

    /** The widest REST of two channels, were it not taken round. */
    private static long widest(int[] row, int[] plan) {
        List<int[]> passes = new ArrayList<>();
        for (int i = 0; i < plan.length; i += 2) {
            passes.add(new int[] {plan[i], plan[i + 1]});
        }
        Mirror.Passes mirror = new Mirror.Passes(passes, 2);
        long most = 0;
        for (int i = 0; i < row.length; i++) {
            int rest = mirror.leave(row[i], i / 2, i % 2);
            long wide = row[i];
            for (int guess : mirror.guess) {
                wide -= guess;
            }
            most = Math.max(most, Math.abs(wide));
            mirror.take(rest, i % 2);
        }
        return most;
    }
}
