/** Promise 18: look. */
public final class Promise18LookTest {
    private static final int[] OTHERS = {-1, -2, 10, 11, 256, Integer.MIN_VALUE, Integer.MAX_VALUE};

    public static void main(String[] args) {
        Due.run(Promise18LookTest.class);
    }

    private static void looksAre(Press x, int... due) {
        for (int what = 0; what < due.length; what++) {
            Due.due("look(" + what + ")", x.look(what), due[what]);
        }
    }

    static void aheadOfAnyAllAreNone() {
        Press x = Press.fresh();
        looksAre(x, 0, 0, 0, 0, 0, 0, 0, 0, 0, 0);
        x.say(1, 2, 3, 4, 5);
        x.pass(1, 1);
        x.feed(0, 1, 2, 3);
        looksAre(x, 0, 0, 0, 0, 0, 0, 0, 0, 0, 0);
    }

    static void aRefusedOrFaultyFirstOneLeavesAllNone() {
        Press x = Press.with(1, 2, 3);
        x.encode(2, false, 0);
        looksAre(x, 0, 0, 0, 0, 0, 0, 0, 0, 0, 0);
        for (int[] tape : Promise16DecodeTest.faulty()) {
            x.setFed(0, tape);
            x.decode();
            looksAre(x, 0, 0, 0, 0, 0, 0, 0, 0, 0, 0);
        }
    }

    static void anotherWhatIsRefused() {
        Press x = Press.fresh();
        for (int what : OTHERS) {
            Due.due("look(" + what + ")", x.look(what), -1);
        }
        x.say(1, 2, 3, 4, 5);
        x.encode(1, false, 3);
        for (int what : OTHERS) {
            Due.due("look(" + what + ")", x.look(what), -1);
        }
    }

    static void ofAnEncoding() {
        Press x = Press.with(0, 0, 0, 0, 8, 4, -4, 12);
        x.pass(17, 2);
        x.pass(2, 3);
        // VALUES 0 0, 0 0, 1 1, -4 1 behind a SHIFT of 2.
        x.encode(2, true, 0);
        looksAre(x, 2, 4, 5, 2, 2, 0, 1, 2, 3, 0);
        x.encode(2, false, 77);
        looksAre(x, 2, 4, 9, 2, 2, 77, 0, 0);
        x.encode(1, false, 0);
        looksAre(x, 1, 8, 0, 2, 2, 0, 1, 4);
    }

    static void ofADecoding() {
        Press x = new Forge(5, 5, 0).shift(3).pass(1, 1).silence(2).frame(0, 20).frame(1, 1).frame(7, 0).fed();
        Due.due("decode()", x.decode(), 10);
        looksAre(x, 2, 5, 5, 3, 1, 0, 1, 2, 20, 0);
    }

    static void ofADecodingOfBoth() {
        Press x = new Forge(5, 5, 0).shift(3).pass(1, 1).silence(2).frame(0, 20).frame(1, 1).frame(7, 0).fed();
        Due.due("decodeBoth()", x.decodeBoth(), 10);
        looksAre(x, 2, 5, 5, 3, 1, 0, 1, 2, 20, 0);
    }

    static void ofTwins() {
        Press x = Press.with(6, 6, 6, 6, 7, 7);
        x.encode(2, true, 65535);
        looksAre(x, 2, 3, 11, 0, 0, 65535, 0, 0);
    }

    static void theLastOfAnyCounts() {
        Press x = Press.with(1, 2, 3);
        x.encode(1, false, 0);
        Due.due("FRAMES", x.look(1), 3);
        new Forge(0, 2, 0).frame(5).frame(6).feed(x);
        x.decode();
        Due.due("FRAMES", x.look(1), 2);
        x.encode(1, false, 0);
        x.setRow(1, 2, 3, 4);
        Due.due("FRAMES", x.look(1), 2);
        x.encode(1, false, 0);
        Due.due("FRAMES", x.look(1), 4);
        new Forge(0, 1, 0).frame(5).feed(x);
        x.decodeBoth();
        Due.due("FRAMES", x.look(1), 1);
    }

    static void aFaultDoesNotCount() {
        Press x = Press.with(0, 0, 8, 4, -4, 12);
        x.pass(17, 2);
        x.encode(2, true, 0);
        for (int[] tape : Promise16DecodeTest.faulty()) {
            x.setFed(0, tape);
            x.decode();
            looksAre(x, 2, 3, 5, 2, 1, 0, 1, 1);
        }
        x.take(0);
        Due.due("decodeBoth()", x.decodeBoth(), -7);
        looksAre(x, 2, 3, 5, 2, 1, 0, 1, 1);
    }

    static void aRefusedEncodingDoesNotCount() {
        Press x = Press.with(0, 0, 8, 4, -4, 12);
        x.encode(2, true, 0);
        x.setRow(9, 9, 9);
        x.encode(2, false, 7);
        x.encode(1, false, 65536);
        looksAre(x, 2, 3, 5, 2, 0, 0, 1, 1);
    }

    static void channelsFramesAndShiftAtTheirMost() {
        Press x = Press.with(Promise08EncodeTest.filled(1200, -8388608));
        x.encode(2, false, 65535);
        looksAre(x, 2, 600, 11, 23, 0, 65535, 0, 0);
    }

    static void passesUpToEight() {
        for (int n = 0; n <= 8; n++) {
            Press x = Press.with(1, 2, 3);
            for (int p = 0; p < n; p++) {
                x.pass(1, 1);
            }
            x.encode(1, false, 0);
            Due.due("PASSES", x.look(4), n);
        }
    }

    static void silencesOfNoFrameDoNotCount() {
        Press x = Press.with(-1, -1, -1);
        x.encode(1, false, 0);
        Due.due("SILENCES", x.look(6), 0);
        Due.due("FRAMES passed over", x.look(7), 0);
        x.take(0);
        x.decode();
        Due.due("SILENCES", x.look(6), 0);
        Due.due("FRAMES passed over", x.look(7), 0);
    }

    static void silencesOfOneFrameOrMore() {
        Press x = Press.with(0, -1, 0, 0, -1, -1, 0);
        x.encode(1, false, 0);
        Due.due("SILENCES", x.look(6), 3);
        Due.due("FRAMES passed over", x.look(7), 4);
        x.take(0);
        x.setRow(1);
        x.encode(1, false, 0);
        Due.due("SILENCES", x.look(6), 0);
        x.decode();
        Due.due("SILENCES", x.look(6), 3);
        Due.due("FRAMES passed over", x.look(7), 4);
    }

    static void aSilenceOfAllFrames() {
        Press x = Press.with(new int[1200]);
        x.encode(2, false, 0);
        looksAre(x, 2, 600, 3, 0, 0, 0, 1, 600, 0, 0);
    }

    static void theGreatestOnes() {
        Press x = Press.with(-1);
        x.encode(1, false, 0);
        Due.due("ONES", x.look(8), 0);
        x.setRow(1, 17, 3);
        x.encode(1, false, 0);
        Due.due("ONES", x.look(8), 17);
        x.setRow(1, 0, 2, 8388607);
        x.encode(2, false, 0);
        Due.due("ONES", x.look(8), 8388607);
        x = new Forge(0, 2, 0).frame(Integer.MAX_VALUE).frame(5).fed();
        x.decode();
        Due.due("ONES", x.look(8), Integer.MAX_VALUE);
        x = new Forge(0, 2, 0).frame(Integer.MIN_VALUE).frame(5).fed();
        x.decodeBoth();
        Due.due("ONES", x.look(8), Integer.MAX_VALUE);
    }

    static void theGreatestDifference() {
        // Behind seven far ones A0 is 3; with E 2 a 0 becomes 1, with E 65535 too.
        int[] row = Promise08EncodeTest.filled(8, 8388607);
        row[7] = 0;
        Press x = Press.with(row);
        x.encode(1, false, 2);
        x.take(0);
        x.take(1);
        Due.due("of encode()", x.look(9), 1);
        Due.due("decode()", x.decode(), 8);
        Due.due("of decode()", x.look(9), 0);
        x.take(0);
        Due.due("decodeBoth()", x.decodeBoth(), 8);
        Due.due("of decodeBoth()", x.look(9), 1);
    }

    static void withoutAnErrorThereIsNoDifference() {
        Press x = Press.with(5, 900, -70000, 3);
        x.pass(1, 7);
        x.encode(2, true, 0);
        Due.due("of encode()", x.look(9), 0);
        x.take(0);
        x.take(1);
        x.decodeBoth();
        Due.due("of decodeBoth()", x.look(9), 0);
    }

    static void aDifferenceIsNeverMoreThanTheErrorByHalf() {
        int[] row = new int[240];
        for (int i = 0; i < row.length; i++) {
            row[i] = i * i * 7919 % 1000003 - 500000;
        }
        Press x = Press.with(row);
        int before = 0;
        for (int error : new int[] {1, 2, 9, 100, 5000, 65535}) {
            x.encode(2, false, error);
            Due.yes("E " + error, x.look(9) >= before && x.look(9) <= (error + 1) / 2);
            before = x.look(9);
        }
        Due.yes("far off", before > 2500);
    }
}
