import java.util.Arrays;

/** Promise 8 with "Terms", 2: SHIFT, TWIN and JOINT. */
public final class Promise08ToEncodeTest {
    public static void main(String[] args) {
        Due.run(Promise08ToEncodeTest.class);
    }

    private static void shiftIs(int channels, int shift, int... row) {
        Press x = Press.with(row);
        x.encode(channels, false, 0);
        Due.due("SHIFT of " + Arrays.toString(row), x.out(0, 2), shift);
        Due.due("look(3)", x.look(3), shift);
        x.take(0);
        x.cut(0);
        x.decode();
        x.isRow(row);
    }

    private static void isStream(Press x, Forge due) {
        Due.same("first stream", Arrays.toString(x.stream(0)), Arrays.toString(due.tape()));
        Due.same("second stream", Arrays.toString(x.stream(1)), Arrays.toString(due.side()));
    }

    static void shiftIsNoneIfAllAreNone() {
        shiftIs(1, 0, 0);
        shiftIs(1, 0, 0, 0, 0);
        shiftIs(2, 0, 0, 0, 0, 0);
    }

    static void eachShift() {
        for (int shift = 0; shift < 23; shift++) {
            shiftIs(1, shift, 1 << shift);
            shiftIs(1, shift, -(1 << shift), 0);
        }
    }

    static void shiftIsTwentyThreeAtMost() {
        shiftIs(1, 23, -8388608);
        shiftIs(1, 23, 0, -8388608, 0);
        shiftIs(2, 23, 0, -8388608);
        shiftIs(1, 22, -8388608, 4194304);
        shiftIs(1, 22, -4194304, -8388608);
    }

    static void allSamplesCountForTheShift() {
        shiftIs(1, 0, 16, 32, 64, 1);
        shiftIs(1, 0, -1, 32, 64);
        shiftIs(1, 1, 16, -6, 64);
        shiftIs(2, 2, 16, 4, 64, 32);
        shiftIs(2, 3, 8, 16, 24, 32);
        int[] row = Promise08EncodeTest.filled(1200, 64);
        row[1199] = 2;
        shiftIs(2, 1, row);
    }

    static void whatWasCutDoesNotCountForTheShift() {
        Press x = Press.with(4, 8, 1, 3);
        x.cut(2);
        x.encode(1, false, 0);
        Due.due("SHIFT", x.look(3), 2);
        x.setRow(Promise08EncodeTest.filled(1200, 1));
        x.cut(0);
        x.say(16, 16, 16, 16, 16);
        x.encode(1, false, 0);
        Due.due("SHIFT", x.look(3), 4);
    }

    static void whatWasCutDoesNotCountForTwins() {
        Press x = Press.with(4, 4, 1, 3);
        x.cut(2);
        x.encode(2, false, 0);
        Due.due("FLAGS", x.look(2), 3);
    }

    static void valuesAreSamplesShifted() {
        Press x = Press.with(-6, 10, 8388606);
        x.encode(1, false, 0);
        isStream(x, new Forge(0, 3, 0).shift(1).frame(-3).frame(5).frame(4194303));
        x.setRow(-8388608);
        x.encode(1, false, 0);
        isStream(x, new Forge(0, 1, 0).shift(23).frame(-1));
    }

    static void anErrorIsOfTheValues() {
        int[] row = new int[200];
        for (int i = 0; i < row.length; i++) {
            row[i] = (i * 7919 % 401 - 200) * 64;
        }
        Press x = Press.with(row);
        x.encode(1, false, 20);
        int off = x.look(9);
        Due.yes("off by some", off > 5 && off <= 20);
        x.take(0);
        x.decode();
        int most = 0;
        for (int i = 0; i < row.length; i++) {
            most = Math.max(most, Math.abs(x.row(i) - row[i]));
        }
        Due.due("SAMPLES are off by", most, 64L * off);
    }

    private static void flagsAre(int flags, boolean joint, int... row) {
        Press x = Press.with(row);
        x.encode(2, joint, 0);
        Due.due("FLAGS of " + row.length, x.out(0, 1), flags);
        x.take(0);
        x.cut(0);
        x.decode();
        x.isRow(row);
    }

    static void twinsAreEqualInAllFrames() {
        flagsAre(3, false, 5, 5);
        flagsAre(3, true, 5, 5);
        flagsAre(3, false, 0, 0);
        flagsAre(3, false, 5, 5, -7, -7, 0, 0);
        flagsAre(3, true, Promise08EncodeTest.filled(1200, -3));
    }

    static void oneFrameThatDiffersMakesNoTwins() {
        flagsAre(1, false, 5, -5);
        flagsAre(1, false, 5, 5, 7, 6);
        flagsAre(1, false, 5, 4, 7, 7);
        flagsAre(5, true, 5, 5, 7, 6);
        flagsAre(1, false, 5, 7, 7, 5);
        int[] row = new int[1200];
        row[1199] = 1;
        flagsAre(1, false, row);
        row[1199] = 0;
        row[1] = 1;
        flagsAre(5, true, row);
    }

    static void ofTwinsOneChannelIsCoded() {
        Press x = Press.with(8, 8, -40, -40, 8, 8);
        x.pass(-1, 7);
        x.pass(1, 3);
        x.encode(2, false, 0);
        // SHIFT 3: 1, -5, 1; the WEIGHT goes to -3, and (-3 * -5 + 512) >> 10 is 0.
        isStream(x, new Forge(3, 3, 0).shift(3).pass(-1, 7).pass(1, 3).frame(1).frame(-5).frame(1));
        Due.due("weight(1, 0)", x.weight(1, 0), -6);
        Due.due("weight(1, 1)", x.weight(1, 1), 0);
        Due.due("median(1, 0)", x.median(1, 0), 0);
        Due.due("CHANNELS", x.look(0), 2);
    }

    static void jointIsDifferenceAndMiddle() {
        Press x = Press.with(3, 3, -5, -6, 7, 12, -1, 0);
        x.encode(2, true, 0);
        // -5 >> 1 is -3, -1 >> 1 is -1: rounded down.
        isStream(x, new Forge(5, 4, 0).frame(0, 3).frame(1, -6).frame(-5, 9).frame(-1, -1));
    }

    static void jointOfTheWidestDifference() {
        Press x = Press.with(8388607, -8388608);
        x.encode(2, true, 0);
        isStream(x, new Forge(5, 1, 0).frame(16777215, -1));
        Due.due("ONES", x.look(8), 16777215);
        flagsAre(5, true, 8388607, -8388608);
        x.setRow(-8388608, 8388607);
        x.encode(2, true, 0);
        isStream(x, new Forge(5, 1, 0).frame(-16777215, -1));
        flagsAre(5, true, -8388608, 8388607);
    }

    static void jointComesBehindTheShift() {
        Press x = Press.with(12, -8, 4, 4);
        x.encode(2, true, 0);
        // 3, -2 and 1, 1.
        isStream(x, new Forge(5, 2, 0).shift(2).frame(5, 0).frame(0, 1));
    }

    static void withoutJointBothAreCodedAsTheyAre() {
        Press x = Press.with(3, -3, 4, 900);
        x.encode(2, false, 0);
        isStream(x, new Forge(1, 2, 0).frame(3, -3).frame(4, 900));
    }
}
