import java.util.Arrays;

/** Promise 8 with "Terms", 3: SILENCE, a REST, G and T, as the bits that encode() writes. */
public final class Promise08CodingTest {
    private static final int HEAD = 6;
    private static final int SIDE_HEAD = 5;

    public static void main(String[] args) {
        Due.run(Promise08CodingTest.class);
    }

    /** The bits of a stream behind so many bytes, up to its CRC. */
    private static String bitsOf(Press x, int which, int from) {
        StringBuilder bits = new StringBuilder();
        for (int i = from; i < x.size(which) - 4; i++) {
            bits.append(Mirror.bits(x.out(which, i), 8));
        }
        return bits.toString();
    }

    private static String padded(String bits) {
        String text = bits.replace(" ", "");
        return text + "0".repeat((8 - text.length() % 8) % 8);
    }

    private static Press bitsAre(int channels, String bits, int... row) {
        Press x = Press.with(row);
        x.encode(channels, false, 0);
        Due.same("bits of " + Arrays.toString(row), bitsOf(x, 0, HEAD), padded(bits));
        x.take(0);
        x.cut(0);
        Due.due("decode()", x.decode(), row.length);
        x.isRow(row);
        return x;
    }

    /** One number at the begin, and a -1 behind it, so that nothing can be shifted. */
    private static Press firstIs(String bits, int first) {
        return bitsAre(1, "00000 " + bits + " 0 1", first, -1);
    }

    /** The last REST of a row with an error, behind others that make the MEDIANS. */
    private static void lastIs(int error, int[] ahead, int rest, String bits, String side) {
        int[] row = Arrays.copyOf(ahead, ahead.length + 1);
        row[ahead.length] = rest;
        Press x = Press.with(row);
        x.encode(1, false, error);
        Forge due = new Forge(0, row.length, error);
        for (int r : ahead) {
            due.frame(r);
        }
        due.bits(bits).sideBits(side);
        Due.same("bits of " + rest, bitsOf(x, 0, 0), bits(due.tape()));
        Due.same("side of " + rest, bitsOf(x, 1, SIDE_HEAD), bits(Arrays.copyOfRange(due.side(), SIDE_HEAD, due.side().length)));
    }

    private static String bits(int[] stream) {
        StringBuilder bits = new StringBuilder();
        for (int i = 0; i < stream.length - 4; i++) {
            bits.append(Mirror.bits(stream[i], 8));
        }
        return bits.toString();
    }

    private static void mediansAre(Press x, int channel, long m0, long m1, long m2) {
        Due.due("M0", x.median(channel, 0), m0);
        Due.due("M1", x.median(channel, 1), m1);
        Due.due("M2", x.median(channel, 2), m2);
    }

    // ---- SILENCE

    static void aSilenceOfTheWholeSound() {
        bitsAre(1, "00001 0", 0);
        bitsAre(1, "00001 1", 0, 0);
        bitsAre(1, "00010 00", 0, 0, 0);
        bitsAre(1, "00010 11", 0, 0, 0, 0, 0, 0);
        bitsAre(1, "00011 000", 0, 0, 0, 0, 0, 0, 0);
        bitsAre(1, "01001 001011001", new int[600]);
        bitsAre(2, "01001 001011001", new int[1200]);
    }

    static void aSilenceOfNoFrame() {
        Press x = bitsAre(1, "00000 10 0", 1);
        Due.due("SILENCES", x.look(6), 0);
        Due.due("FRAMES passed over", x.look(7), 0);
    }

    static void aSilenceEndsAtTheFirstOtherFrame() {
        bitsAre(1, "00001 1  1110 0", 0, 0, 3);
        Press x = bitsAre(2, "00001 0  0 0  110 1", 0, 0, 0, -3);
        Due.due("SILENCES", x.look(6), 1);
        Due.due("FRAMES passed over", x.look(7), 1);
        bitsAre(2, "00001 0  0 1  0 0", 0, 0, -1, 0);
    }

    static void rightBehindASilenceNoneIsAskedFor() {
        // V of -1 is 0, so M0 stays 0, and each second question only is left out.
        bitsAre(1, "00000  0 1", -1);
        bitsAre(1, "00000  0 1  00000  0 1", -1, -1);
        bitsAre(1, "00001 0  0 1  00001 0", 0, -1, 0);
        Press x = bitsAre(1, "00000 0 1  00000 0 1  00001 0  0 1", -1, -1, 0, -1);
        Due.due("SILENCES", x.look(6), 1);
        Due.due("FRAMES passed over", x.look(7), 1);
        bitsAre(1, "00000 0 1  00001 1  0 1  00010 00", -1, 0, 0, -1, 0, 0, 0);
    }

    static void noneWhereAMedianIsNotNone() {
        // Behind the 3 M0 is 5, 3, 1 and stays 1.
        bitsAre(1, "00000  1110 0  0 0  0 0  0 0  0 0", 3, 0, 0, 0, 0);
        // Behind two of them it is 10 and falls to 0 in five FRAMES.
        bitsAre(1, "00000  10 0 10 0  00 00 00 00 00  00001 1", 1, 1, 0, 0, 0, 0, 0, 0, 0);
        bitsAre(1, "00000  10 0 10 0  00 00 00 00 00  00000  10 0", 1, 1, 0, 0, 0, 0, 0, 1);
    }

    static void everyChannelsMedianCounts() {
        bitsAre(2, "00000  10 0 0 1  0 0 0 0", 1, -1, 0, 0);
        bitsAre(2, "00000  0 1 10 0  0 0 0 0", -1, 1, 0, 0);
        bitsAre(2, "00000  0 1 0 0  00001 0", -1, 0, 0, 0);
        // Of twins the first one counts alone.
        bitsAre(2, "00000  0 1  00001 0", -1, -1, 0, 0);
    }

    static void noneWithAnError() {
        for (int error : new int[] {1, 65535}) {
            Press x = Press.with(0, 0, 0);
            x.encode(1, false, error);
            Due.same("bits", bitsOf(x, 0, HEAD + 2), "00000000");
            Due.due("SILENCES", x.look(6), 0);
            Due.due("FRAMES passed over", x.look(7), 0);
        }
    }

    static void mediansStayInASilence() {
        // Behind 3 and 3 M1 and M2 are 10; 0 takes M0 alone down to 0.
        Press x = bitsAre(1, "00000 11100 11100  00 00 00 00 00  00011 000", 3, 3, 0, 0, 0, 0, 0, 0, 0, 0, 0, 0, 0, 0);
        mediansAre(x, 0, 0, 10, 10);
        Due.due("FRAMES passed over", x.look(7), 7);
    }

    static void framesThatSoundArePassedOverToo() {
        // RESTS of -1 train the WEIGHT to 1024 while M0 stays 0; then each VALUE is the one before.
        Forge due = new Forge(0, 171, 0).pass(1, 7);
        for (int i = 0; i < 160; i++) {
            due.frame(-1);
        }
        due.silence(10).frame(-1);
        Press x = due.fed();
        Due.due("decode()", x.decode(), 171);
        Due.due("weight", x.weight(0, 0), 1024);
        int level = x.row(159);
        Due.yes("it sounds", level < -10);
        for (int i = 160; i < 170; i++) {
            Due.due("row(" + i + ")", x.row(i), level);
        }
        Due.due("row(170)", x.row(170), level - 1);
        x.pass(1, 7);
        x.encode(1, false, 0);
        Due.same("stream", Arrays.toString(x.stream(0)), Arrays.toString(due.tape()));
        Due.due("SILENCES", x.look(6), 1);
        Due.due("FRAMES passed over", x.look(7), 10);
    }

    static void weightsLearnInASilence() {
        // The second PASS guesses on, so the first one has something left though the REST is 0.
        Forge due = new Forge(0, 115, 0).pass(1, 7).pass(1, 7);
        for (int i = 0; i < 110; i++) {
            due.frame(-1);
        }
        due.silence(2).frame(-1).silence(2);
        Press x = due.fed();
        Due.due("decode()", x.decode(), 115);
        Due.due("weight(1, 0)", x.weight(1, 0), 7 * 110);
        Due.due("weight(0, 0)", x.weight(0, 0), 7 * 114);
        x.pass(1, 7);
        x.pass(1, 7);
        x.encode(1, false, 0);
        Due.same("stream", Arrays.toString(x.stream(0)), Arrays.toString(due.tape()));
    }

    static void weightsOfBothChannelsLearnInASilence() {
        Forge due = new Forge(1, 115, 0).pass(1, 7).pass(-3, 7);
        for (int i = 0; i < 110; i++) {
            due.frame(-1, -1);
        }
        due.silence(2).frame(-1, 0).silence(2);
        Press x = due.fed();
        Due.due("decode()", x.decode(), 230);
        Due.yes("it sounds", x.row(224) < 0 && x.row(225) < 0);
        Due.due("weight(1, 0)", x.weight(1, 0), 7 * 110);
        Due.due("weight(1, 1)", x.weight(1, 1), 7 * 109);
        Due.due("weight(0, 0)", x.weight(0, 0), 7 * 114);
        Due.due("weight(0, 1)", x.weight(0, 1), 7 * 114);
        x.pass(1, 7);
        x.pass(-3, 7);
        x.encode(2, false, 0);
        Due.same("stream", Arrays.toString(x.stream(0)), Arrays.toString(due.tape()));
        Due.due("FRAMES passed over", x.look(7), 4);
    }

    // ---- a REST

    static void aRestBelowNoneIsOneNearer() {
        bitsAre(1, "00000  0 1", -1);
        firstIs("10 0", 1);
        firstIs("10 1", -2);
        firstIs("110 0", 2);
        firstIs("110 1", -3);
    }

    static void onesBelowSixteen() {
        for (int v = 1; v < 16; v++) {
            firstIs("1".repeat(v) + "0 0", v);
            firstIs("1".repeat(v) + "0 1", -1 - v);
        }
        Press x = firstIs("1".repeat(15) + "0 0", 15);
        Due.due("ONES", x.look(8), 15);
    }

    static void onesFromSixteenOn() {
        String ones = "1".repeat(16);
        Press x = firstIs(ones + "00000 0", 16);
        Due.due("ONES", x.look(8), 16);
        firstIs(ones + "00001 0 0", 17);
        firstIs(ones + "00001 1 0", 18);
        firstIs(ones + "00010 00 0", 19);
        firstIs(ones + "00010 11 1", -23);
        firstIs(ones + "00011 000 1", -24);
        firstIs(ones + "10110 1111111111111111110000 0", 8388607);
        firstIs(ones + "10110 1111111111111111110000 1", -8388608);
    }

    static void mediansMoveByTheOnes() {
        mediansAre(bitsAre(1, "00000  0 1", -1), 0, 0, 0, 0);
        mediansAre(bitsAre(1, "00000  10 0", 1), 0, 5, 0, 0);
        mediansAre(bitsAre(1, "00000  110 1", -3), 0, 5, 5, 0);
        mediansAre(bitsAre(1, "00000  1110 0", 3), 0, 5, 5, 5);
        mediansAre(bitsAre(1, "00000 " + "1".repeat(16) + "00000 1", -17), 0, 5, 5, 5);
        mediansAre(bitsAre(1, "00000 " + "1".repeat(16) + "00001 0 0", 17), 0, 5, 5, 5);
        mediansAre(bitsAre(1, "00000  1110 0  110 0", 3, 2), 0, 10, 10, 3);
        mediansAre(bitsAre(1, "00000  1110 0  10 0", 3, 1), 0, 10, 3, 5);
        mediansAre(bitsAre(1, "00000  1110 0  0 0", 3, 0), 0, 3, 5, 5);
    }

    static void mediansFallNoLowerThanNone() {
        mediansAre(bitsAre(1, "00000  1110 0" + " 00".repeat(4), 3, 0, 0, 0, 0), 0, 1, 5, 5);
        mediansAre(bitsAre(1, "00000  1110 0" + " 10 0".repeat(3), 3, 1, 1, 1), 0, 20, 1, 5);
        mediansAre(bitsAre(1, "00000  10 0 10 0" + " 00".repeat(5), 1, 1, 0, 0, 0, 0, 0), 0, 0, 0, 0);
    }

    private static Press behind(int rests, int value) {
        Press x = Press.with(Promise08EncodeTest.filled(rests, value));
        x.encode(1, false, 0);
        return x;
    }

    static void mediansRiseInSteps() {
        // D is 128, 64, 32: the first step of 10 comes when a MEDIAN has reached it.
        int far = 8388607;
        mediansAre(behind(7, far), 0, 35, 35, 35);
        mediansAre(behind(8, far), 0, 40, 40, 45);
        mediansAre(behind(10, far), 0, 50, 50, 65);
        mediansAre(behind(11, far), 0, 55, 55, 80);
        mediansAre(behind(13, far), 0, 65, 65, 110);
        mediansAre(behind(14, far), 0, 70, 75, 130);
        mediansAre(behind(20, far), 0, 100, 135, 330);
        mediansAre(behind(21, far), 0, 105, 150, 385);
        mediansAre(behind(26, far), 0, 130, 235, 825);
        mediansAre(behind(27, far), 0, 140, 255, 955);
    }

    static void mediansFallInSteps() {
        // 130 + 126 is twice 128, so M0 falls by 4; then 252 is once 128.
        int[] row = Arrays.copyOf(Promise08EncodeTest.filled(26, 8388607), 28);
        Press x = Press.with(Arrays.copyOf(row, 27));
        x.encode(1, false, 0);
        Due.due("M0", x.median(0, 0), 126);
        x.setRow(row);
        x.encode(1, false, 0);
        Due.due("M0", x.median(0, 0), 124);
    }

    private static void fallsTo(int k, int far, int[] rests, int... due) {
        int[] row = Arrays.copyOf(Promise08EncodeTest.filled(far, 8388607), far + rests.length);
        System.arraycopy(rests, 0, row, far, rests.length);
        for (int n = 1; n <= rests.length; n++) {
            Press x = Press.with(Arrays.copyOf(row, far + n));
            x.encode(1, false, 0);
            Due.due("M" + k + " behind " + n, x.median(0, k), due[n - 1]);
        }
    }

    static void theOtherMediansFallInTheirSteps() {
        // Behind 14 far ones M1 is 75 and A0 5, later 6: ONES 1. D1 is 64, so 67 falls by 4, 63 by 2.
        fallsTo(1, 14, new int[] {5, 5, 6, 6}, 71, 67, 63, 61);
        // Behind 8 far ones M2 is 45, A0 and A1 are 3: ONES 2. D2 is 32, so 37 falls by 4, 33 by 2.
        fallsTo(2, 8, new int[] {6, 6, 8, 8}, 41, 37, 33, 31);
        // Behind 14 far ones M2 is 130, A0 and A1 are 5: 130 and 30 are five times 32.
        fallsTo(2, 14, new int[] {10}, 120);
    }

    static void boundsAreOfA0AsItWas() {
        // The fourth 1 makes M0 20: only then A0 is 2, and 1 is below it.
        bitsAre(1, "00000 100 100 100 100  0 1 0", 1, 1, 1, 1, 1);
        bitsAre(1, "00000 100 100 100 100  10 0", 1, 1, 1, 1, 2);
        bitsAre(1, "00000 100 100 100 100  0 0 0", 1, 1, 1, 1, 0);
        bitsAre(1, "00000 100 100 100 100  110 0", 1, 1, 1, 1, 3);
        bitsAre(1, "00000 100 100 100 100  0 1 1", 1, 1, 1, 1, -2);
    }

    static void theBoundsHalve() {
        // Seven far ones make each MEDIAN 35, so A0, A1 and A2 are 3: from 0, from 3, from 6 on.
        int[] far = Promise08EncodeTest.filled(7, 8388607);
        String[] three = {"0", "10", "11"};
        for (int v = 0; v < 15; v++) {
            String bits = "1".repeat(v / 3) + "0" + three[v % 3];
            lastIs(0, far, v, bits + "0", "");
            lastIs(0, far, -1 - v, bits + "1", "");
        }
    }

    static void theBoundsHalveDownToTheError() {
        int[] far = Promise08EncodeTest.filled(7, 8388607);
        // E 1: HIGH - LOW of 2 is halved, of 1 is not.
        lastIs(1, far, 0, "0 0 0", "");
        lastIs(1, far, 1, "0 1 0", "0");
        lastIs(1, far, 2, "0 1 0", "1");
        lastIs(1, far, -3, "0 1 1", "1");
        // E 2: nothing is halved; T of 3 is 0, 10, 11.
        lastIs(2, far, 0, "0 0", "0");
        lastIs(2, far, 1, "0 0", "10");
        lastIs(2, far, 2, "0 0", "11");
        lastIs(2, far, 5, "10 0", "11");
        lastIs(2, far, -7, "110 1", "0");
        lastIs(65535, far, 9, "1110 0", "0");
    }

    static void tOfEachNumberUpToNine() {
        // M0 of 5 n up to 130, of 10 more each from there on: A0 goes from 1 to 9.
        int[][] aheadAndA0 = {{1, 1}, {4, 2}, {7, 3}, {10, 4}, {13, 5}, {16, 6}, {20, 7}, {23, 8}, {26, 9}};
        String[][] codes = {
            {""}, {"0", "1"}, {"0", "10", "11"}, {"00", "01", "10", "11"},
            {"00", "01", "10", "110", "111"}, {"00", "01", "100", "101", "110", "111"},
            {"00", "010", "011", "100", "101", "110", "111"},
            {"000", "001", "010", "011", "100", "101", "110", "111"},
            {"000", "001", "010", "011", "100", "101", "110", "1110", "1111"}};
        for (int[] pair : aheadAndA0) {
            int[] ahead = Promise08EncodeTest.filled(pair[0], 8388607);
            for (int v = 0; v < pair[1]; v++) {
                lastIs(65535, ahead, v, "0 0", codes[pair[1] - 1][v]);
            }
        }
    }

    static void theMiddleIsTakenAsTheRest() {
        // A0 is 3 and nothing is halved: V' is (0 + 2 + 1) >> 1; REST' is 1 or -2.
        int[] row = Promise08EncodeTest.filled(9, 8388607);
        row[7] = 0;
        row[8] = -1;
        Press x = Press.with(row);
        x.encode(1, false, 2);
        Due.due("off by", x.look(9), 1);
        x.take(0);
        x.decode();
        Due.due("row(7)", x.row(7), 1);
        Due.due("row(8)", x.row(8), -2);
    }

    static void theMiddleOfTwoIsTheUpper() {
        // A0 is 2: V' is (0 + 1 + 1) >> 1.
        int[] row = Promise08EncodeTest.filled(5, 8388607);
        row[4] = 0;
        Press x = Press.with(row);
        x.encode(1, false, 1);
        x.take(0);
        x.decode();
        Due.due("row(4)", x.row(4), 1);
    }

    static void withoutAnErrorTheSecondStreamHasNoBits() {
        Press x = Press.with(900, -80000, 3, 3, 0, 77);
        for (int channels = 1; channels <= 2; channels++) {
            x.encode(channels, true, 0);
            Due.due("size(1)", x.size(1), 9);
            Due.due("off by", x.look(9), 0);
        }
    }

    static void theChannelsHaveTheirOwnMedians() {
        Press x = bitsAre(2, "00000  1110 0 10 0  11110 0 0 1", 3, 1, 4, -1);
        mediansAre(x, 0, 10, 10, 10);
        mediansAre(x, 1, 3, 0, 0);
    }
}
