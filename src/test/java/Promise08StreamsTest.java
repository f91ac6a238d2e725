import java.util.Arrays;

/** Promise 8 with "Terms", 4: the bytes of both streams. */
public final class Promise08StreamsTest {
    public static void main(String[] args) {
        Due.run(Promise08StreamsTest.class);
    }

    private static void startsWith(Press x, int which, int... bytes) {
        for (int i = 0; i < bytes.length; i++) {
            Due.due("out(" + which + ", " + i + ")", x.out(which, i), bytes[i]);
        }
    }

    static void aWholeStream() {
        Press x = Press.with(0, 0, 0, 0, 0);
        x.encode(1, false, 0);
        int crc = Forge.crc(83, 0, 0, 0, 5, 0, 20);
        startsWith(x, 0, 83, 0, 0, 0, 5, 0, 20, crc >>> 24, crc >>> 16 & 255, crc >>> 8 & 255, crc & 255, -1);
    }

    static void theHeadOfAllThatThereIs() {
        Press x = Press.with(8, -24, 40, -24);
        x.pass(-1, 7);
        x.pass(-3, 1);
        x.pass(18, 2);
        x.encode(2, false, 258);
        startsWith(x, 0, 83, 9, 3, 0, 2, 3, 255, 7, 253, 1, 18, 2, 1, 2);
    }

    static void flagsOfEachKind() {
        int[] apart = {1, 2, 3, 4};
        int[] alike = {5, 5, 6, 6};
        flagsAre(0, 1, false, 0, apart);
        flagsAre(0, 1, true, 0, apart);
        flagsAre(8, 1, true, 1, apart);
        flagsAre(1, 2, false, 0, apart);
        flagsAre(5, 2, true, 0, apart);
        flagsAre(9, 2, false, 65535, apart);
        flagsAre(13, 2, true, 1, apart);
        flagsAre(3, 2, false, 0, alike);
        flagsAre(3, 2, true, 0, alike);
        flagsAre(11, 2, true, 1, alike);
        flagsAre(0, 1, false, 0, alike);
    }

    private static void flagsAre(int flags, int channels, boolean joint, int error, int[] row) {
        Press x = Press.with(row);
        x.encode(channels, joint, error);
        Due.due("FLAGS", x.out(0, 1), flags);
        Due.due("look(2)", x.look(2), flags);
    }

    static void framesInTwoBytes() {
        for (int frames : new int[] {1, 2, 255, 256, 257, 511, 512, 599, 600}) {
            Press x = Press.with(new int[frames]);
            x.encode(1, false, 0);
            startsWith(x, 0, 83, 0, 0, frames / 256, frames % 256, 0);
        }
        Press x = Press.with(new int[1200]);
        x.encode(2, false, 0);
        startsWith(x, 0, 83, 3, 0, 2, 88, 0);
    }

    static void theErrorInTwoBytes() {
        Press x = Press.with(1);
        for (int error : new int[] {1, 255, 256, 32768, 65535}) {
            x.encode(1, false, error);
            startsWith(x, 0, 83, 8, 0, 0, 1, 0, error / 256, error % 256);
        }
    }

    static void eachTermAndDelta() {
        for (int term : Promise06PassTest.TERMS) {
            Press x = Press.with(1);
            x.pass(term, 5);
            x.encode(1, false, 0);
            startsWith(x, 0, 83, 0, 0, 0, 1, 1, term < 0 ? 256 + term : term, 5);
        }
    }

    static void eightPasses() {
        Press x = Press.with(1);
        for (int p = 1; p <= 8; p++) {
            x.pass(p, 8 - Math.min(7, p));
        }
        x.encode(1, false, 1);
        startsWith(x, 0, 83, 8, 0, 0, 1, 8, 1, 7, 2, 6, 3, 5, 4, 4, 5, 3, 6, 2, 7, 1, 8, 1, 0, 1);
    }

    static void theCrcOfAllAheadOfIt() {
        Press x = Press.with(100, -200, 300, -32768, 32767, 7);
        x.pass(1, 7);
        for (int error : new int[] {0, 1, 100, 65535}) {
            x.encode(2, true, error);
            for (int which = 0; which < 2; which++) {
                int[] bytes = x.stream(which);
                int[] due = Forge.sealed(Arrays.copyOf(bytes, bytes.length - 4));
                Due.same("stream " + which, Arrays.toString(bytes), Arrays.toString(due));
            }
        }
    }

    static void theSecondStreamNamesTheFirst() {
        Press x = Press.with(100, -200, 300, -32768, 32767, 7);
        for (int error : new int[] {0, 1, 100, 65535}) {
            x.encode(1, false, error);
            int n = x.size(0);
            startsWith(x, 1, 67, x.out(0, n - 4), x.out(0, n - 3), x.out(0, n - 2), x.out(0, n - 1));
        }
    }

    static void aFullLastByteHasNoneBehindIt() {
        Press x = Press.with(1);
        x.encode(1, false, 0);
        Due.due("eight bits", x.size(0), 11);
        x.setRow(-1);
        x.encode(1, false, 0);
        Due.due("seven bits", x.size(0), 11);
        startsWith(x, 0, 83, 0, 0, 0, 1, 0, 2);
        x.setRow(-3);
        x.encode(1, false, 0);
        Due.due("nine bits", x.size(0), 12);
        startsWith(x, 0, 83, 0, 0, 0, 1, 0, 6, 128);
        Due.due("out(0, 12)", x.out(0, 12), -1);
    }

    static void theLastBytesRestIsNone() {
        // Ones in a longer stream ahead of it must not shine through.
        Press x = Press.with(-16, -16, -16, -16, -15);
        x.encode(1, false, 0);
        x.setRow(-1, 0);
        x.encode(1, false, 0);
        startsWith(x, 0, 83, 0, 0, 0, 2, 0, 2, 16);
        Due.due("size(0)", x.size(0), 12);
    }

    static void theSecondStreamsLastByte() {
        // A0 is 3 behind seven far ones, whose T are of more: the last T of 3 is 11.
        int[] row = Promise08EncodeTest.filled(8, 8388607);
        row[7] = 2;
        Press x = Press.with(row);
        x.encode(1, false, 2);
        Forge due = new Forge(0, 8, 2);
        for (int rest : row) {
            due.frame(rest);
        }
        Due.same("second stream", Arrays.toString(x.stream(1)), Arrays.toString(due.side()));
    }
}
