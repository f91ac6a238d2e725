import java.util.Arrays;

/** Promise 8: encode, and what it refuses. */
public final class Promise08EncodeTest {
    public static void main(String[] args) {
        Due.run(Promise08EncodeTest.class);
    }

    static int[] filled(int n, int with) {
        int[] row = new int[n];
        Arrays.fill(row, with);
        return row;
    }

    /** An object that has all: a ROW, a PLAN, streams, a TAPE and a SIDE that can be decoded. */
    static Press busy() {
        Press x = Press.with(40, -3, 900, 7, 7, 12);
        x.pass(17, 2);
        x.pass(-1, 7);
        x.encode(2, true, 4);
        x.take(0);
        x.take(1);
        return x;
    }

    private static void refuses(int channels, boolean joint, int error, int... row) {
        Press x = busy();
        x.setRow(row);
        Press y = x.again();
        Due.due("encode(" + channels + ", " + joint + ", " + error + ")", y.encode(channels, joint, error), -1);
        Due.same("all", y.allWithin(), x.allWithin());
    }

    private static void accepts(int channels, int error, int... row) {
        Press x = Press.with(row);
        String call = "encode(" + channels + ", false, " + error + ")";
        Due.yes(call, x.encode(channels, false, error) >= 10);
        Due.due("CHANNELS", x.look(0), channels);
        Due.due("FRAMES", x.look(1), row.length / channels);
        Due.due("E", x.look(5), error);
        x.take(0);
        x.take(1);
        x.cut(0);
        Due.due("decodeBoth()", x.decodeBoth(), row.length);
        x.isRow(row);
    }

    static void itTellsHowManyBytesTheFirstStreamHas() {
        Press x = Press.with(1, 2, 3);
        Due.due("encode", x.encode(1, false, 0), 13);
        Due.due("size(0)", x.size(0), 13);
        x.setRow(5);
        Due.due("encode", x.encode(1, false, 0), 12);
        Due.due("size(0)", x.size(0), 12);
    }

    static void channelsTooFew() {
        refuses(0, false, 0, 1, 2);
        refuses(-1, false, 0, 1, 2);
        refuses(Integer.MIN_VALUE, false, 0, 1, 2);
    }

    static void channelsTooMany() {
        refuses(3, false, 0, 1, 2, 3);
        refuses(4, true, 0, 1, 2, 3, 4);
        refuses(257, false, 0, 1, 2);
        refuses(Integer.MAX_VALUE, false, 0, 1, 2);
        // 512 times 8388609 goes round to 512.
        refuses(8388609, false, 0, filled(512, 1));
    }

    static void errorTooSmall() {
        refuses(1, false, -1, 1, 2);
        refuses(2, true, -65535, 1, 2);
        refuses(1, false, Integer.MIN_VALUE, 1, 2);
    }

    static void errorTooLarge() {
        refuses(1, false, 65536, 1, 2);
        refuses(2, true, 65536, 1, 2);
        refuses(1, false, Integer.MAX_VALUE, 1, 2);
    }

    static void errorOfNoneAndTheMost() {
        accepts(1, 0, 1, 2);
        accepts(2, 0, 1, 2);
        accepts(1, 1, 1, 2);
        accepts(1, 65535, 1, 2);
        accepts(2, 65535, 1, 2);
    }

    static void anEmptyRowIsNoSound() {
        refuses(1, false, 0);
        refuses(2, false, 0);
        refuses(2, true, 9);
    }

    static void anOddRowIsNoSoundOfTwo() {
        refuses(2, false, 0, 1);
        refuses(2, false, 0, 1, 2, 3);
        refuses(2, true, 7, filled(1199, 1));
    }

    static void oneFrame() {
        accepts(1, 0, 77);
        accepts(2, 0, 77, 78);
        accepts(2, 0, 77, 77);
        accepts(1, 0, 0);
    }

    static void sixHundredFrames() {
        accepts(1, 0, filled(600, 3));
        accepts(2, 0, filled(1200, 3));
        int[] row = filled(1200, -9);
        row[1199] = 8;
        accepts(2, 5, row);
    }

    static void moreThanSixHundredFrames() {
        refuses(1, false, 0, filled(601, 1));
        refuses(1, false, 9, filled(602, 0));
        refuses(1, false, 0, filled(1200, 1));
    }

    static void theLeastAndTheGreatestSample() {
        accepts(1, 0, -8388608);
        accepts(1, 0, 8388607);
        accepts(1, 65535, -8388608, 8388607);
        accepts(2, 0, -8388608, 8388607, 8388607, -8388608);
    }

    static void aSampleTooSmall() {
        refuses(1, false, 0, -8388609);
        refuses(1, false, 0, -8388609, 1, 1);
        refuses(1, false, 0, 1, 1, -8388609);
        refuses(2, false, 0, 1, -8388609, 1, 1);
        refuses(2, true, 0, -8388609, -8388609);
        refuses(1, false, 0, Integer.MIN_VALUE);
        refuses(1, false, 65535, -16777216);
    }

    static void aSampleTooLarge() {
        refuses(1, false, 0, 8388608);
        refuses(1, false, 0, 8388608, 1, 1);
        refuses(1, false, 0, 1, 1, 8388608);
        refuses(2, false, 0, 1, 1, 1, 8388608);
        refuses(2, true, 0, 8388608, 8388608);
        refuses(1, false, 0, Integer.MAX_VALUE);
        refuses(1, false, 65535, 16777216);
    }

    static void aSampleTooLargeAtTheEndOfAFullRow() {
        int[] row = new int[1200];
        row[1199] = 8388608;
        refuses(2, false, 0, row);
        row[1199] = -8388609;
        refuses(2, false, 0, row);
    }

    static void theRowThePlanAndWhatWasFedStay() {
        Press x = busy();
        x.setRow(5, 6, 7, 8);
        Press y = x.again();
        y.encode(2, true, 0);
        y.isRow(5, 6, 7, 8);
        Due.due("PASSES", y.count(1), 2);
        Due.due("TAPE", y.count(2), x.count(2));
        Due.due("SIDE", y.count(3), x.count(3));
        Due.due("decodeBoth()", y.decodeBoth(), 6);
        y.isRow(40, -3, 900, 7, 7, 12);
    }

    static void jointCountsForTwoChannelsAlone() {
        Press x = Press.with(3, 9, 4, 4);
        Press y = x.again();
        Due.due("encode", x.encode(1, true, 0), y.encode(1, false, 0));
        Due.same("all", x.all(), y.all());
        Due.due("FLAGS", x.look(2), 0);
        x.encode(2, true, 0);
        y.encode(2, false, 0);
        Due.due("FLAGS", x.look(2), 5);
        Due.due("FLAGS", y.look(2), 1);
    }

    static void jointDoesNotCountForTwins() {
        Press x = Press.with(3, 3, -4, -4);
        Press y = x.again();
        Due.due("encode", x.encode(2, true, 0), y.encode(2, false, 0));
        Due.same("all", x.all(), y.all());
        Due.due("FLAGS", x.look(2), 3);
    }

    static void eachEncodingBeginsAnew() {
        Press x = Press.with(900, 5, 6, 7, 8, 2, -9, 100);
        x.pass(1, 7);
        x.pass(-3, 7);
        Press y = x.again();
        y.encode(1, false, 9);
        y.encode(2, true, 0);
        x.encode(2, true, 0);
        Due.same("all", y.all(), x.all());
        y.encode(2, true, 0);
        Due.same("all", y.all(), x.all());
    }

    static void aDecodingAheadOfItDoesNotCount() {
        Press x = busy();
        Press y = x.again();
        y.end(0, 3);
        y.decode();
        y.take(0);
        y.decode();
        x.setRow(1, 2, 30, -4);
        y.setRow(1, 2, 30, -4);
        Due.due("encode", y.encode(1, false, 0), x.encode(1, false, 0));
        x.take(0);
        y.take(0);
        y.take(1);
        x.take(1);
        Due.same("all", y.all(), x.all());
    }

    static void aSoundThatIsNoneAfterDecodingIsRefused() {
        Press x = new Forge(0, 1, 0).frame(8388608).fed();
        Due.due("decode()", x.decode(), 1);
        Due.due("row(0)", x.row(0), 8388608);
        Due.due("encode", x.encode(1, false, 0), -1);
        x = new Forge(0, 1, 0).frame(8388607).fed();
        x.decode();
        Due.yes("encode", x.encode(1, false, 0) > 0);
    }
}
