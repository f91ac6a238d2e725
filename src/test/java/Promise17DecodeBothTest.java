import java.util.Arrays;

/** Promise 17: decodeBoth, with FAULTS 7 to 12. */
public final class Promise17DecodeBothTest {
    private static final int[] ROW = {21, 1, 300, 299, 301, -300, 311, 290, 307, 2};

    public static void main(String[] args) {
        Due.run(Promise17DecodeBothTest.class);
    }

    private static Press taken(int error) {
        Press x = Press.with(ROW);
        x.pass(1, 7);
        x.encode(1, false, error);
        x.take(0);
        x.take(1);
        return x;
    }

    private static void isFault(String what, Press x, int fault) {
        Press y = x.again();
        Due.due(what, y.decodeBoth(), -fault);
        Due.due("count(2) behind " + what, y.count(2), 0);
        Due.due("count(3) behind " + what, y.count(3), 0);
        y.take(0);
        y.take(1);
        Press z = x.again();
        z.take(0);
        z.take(1);
        Due.same("all behind " + what, y.allWithin(), z.allWithin());
    }

    static void theSoundIsPutRight() {
        for (int error : new int[] {0, 1, 2, 3, 100, 65535}) {
            Press x = taken(error);
            x.cut(0);
            Due.due("decodeBoth()", x.decodeBoth(), 10);
            x.isRow(ROW);
        }
    }

    static void ofTwoChannels() {
        for (boolean joint : new boolean[] {false, true}) {
            for (int error : new int[] {0, 1, 7, 65535}) {
                Press x = Press.with(ROW);
                x.pass(-1, 7);
                x.pass(-3, 2);
                x.encode(2, joint, error);
                x.take(0);
                x.take(1);
                x.cut(0);
                Due.due("decodeBoth()", x.decodeBoth(), 10);
                x.isRow(ROW);
            }
        }
    }

    static void ofTwins() {
        int[] row = {9000, 9000, -7, -7, 9000, 9000, 77, 77, 5, 5, 900, 900, 4, 4, 3, 3};
        Press x = Press.with(row);
        x.encode(2, true, 65535);
        x.take(0);
        x.take(1);
        x.cut(0);
        Due.due("decodeBoth()", x.decodeBoth(), 16);
        x.isRow(row);
    }

    static void withAShift() {
        int[] row = new int[300];
        for (int i = 0; i < row.length; i++) {
            row[i] = (i * 7919 % 2001 - 1000) * 4096;
        }
        Press x = Press.with(row);
        x.pass(18, 3);
        x.encode(2, true, 300);
        x.take(0);
        x.take(1);
        x.cut(0);
        Due.due("decodeBoth()", x.decodeBoth(), 300);
        x.isRow(row);
    }

    static void ofSixHundredFrames() {
        int[] row = new int[1200];
        for (int i = 0; i < row.length; i++) {
            row[i] = i * i * 31 % 16777213 - 8388608;
        }
        Press x = Press.with(row);
        x.pass(17, 3);
        x.encode(2, false, 65535);
        x.take(0);
        x.take(1);
        x.cut(0);
        Due.due("decodeBoth()", x.decodeBoth(), 1200);
        x.isRow(row);
    }

    static void ofAShorterSoundBehindALongerOne() {
        // Nothing that was read of the longer one may be asked for again.
        for (int n = 1; n < 40; n++) {
            int[] row = new int[40];
            for (int i = 0; i < row.length; i++) {
                row[i] = i * 7919 % 4001 - 2000;
            }
            Press x = Press.with(row);
            x.encode(1, false, 100);
            x.take(0);
            x.take(1);
            Due.due("decodeBoth()", x.decodeBoth(), 40);
            x.cut(n);
            x.encode(1, false, 100);
            x.take(0);
            x.take(1);
            x.cut(0);
            Due.due("decodeBoth()", x.decodeBoth(), n);
            x.isRow(Arrays.copyOf(row, n));
        }
    }

    static void bothAreUsedUp() {
        Press x = taken(3);
        Due.due("decodeBoth()", x.decodeBoth(), 10);
        Due.due("count(2)", x.count(2), 0);
        Due.due("count(3)", x.count(3), 0);
        Due.due("decodeBoth()", x.decodeBoth(), -1);
    }

    static void aFaultOfTheFirstUsesBothUp() {
        for (int fault = 1; fault <= 6; fault++) {
            Press x = taken(3);
            x.setFed(0, Promise16DecodeTest.faulty().get(fault - 1));
            isFault("fault " + fault, x, fault);
        }
    }

    static void faultsOfTheFirstCountAheadOfThoseOfTheSecond() {
        for (int fault = 1; fault <= 6; fault++) {
            for (int n : new int[] {0, 8, 9, 12}) {
                Press x = Press.fresh();
                x.setFed(0, Promise16DecodeTest.faulty().get(fault - 1));
                x.setFed(1, new int[n]);
                Due.due("fault " + fault, x.decodeBoth(), -fault);
            }
        }
    }

    static void anEmptyTapeIsShort() {
        Press x = taken(3);
        x.end(0, 0);
        isFault("no TAPE", x, 1);
        x.end(1, 0);
        isFault("neither", x, 1);
    }

    // ---- 7 SHORT

    static void shortBelowNineBytes() {
        for (int n = 0; n < 9; n++) {
            Press x = taken(3);
            x.end(1, n);
            isFault(n + " bytes", x, 7);
        }
        Press x = taken(3);
        x.end(1, 9);
        isFault("nine bytes", x, 8);
    }

    static void shortCountsAheadOfCrc() {
        Press x = taken(3);
        x.end(1, 8);
        x.seal(1);
        isFault("eight bytes with their CRC", x, 7);
    }

    // ---- 8 CRC

    static void crcOfEachByte() {
        int n = taken(3).count(3);
        for (int i = 0; i < n; i++) {
            for (int bit = 0; bit < 8; bit++) {
                Press x = taken(3);
                x.harm(1, i, 1 << bit);
                Due.due("byte " + i + " bit " + bit, x.decodeBoth(), -8);
            }
        }
    }

    static void crcCountsAheadOfHead() {
        Press x = taken(3);
        x.harm(1, 0, 1);
        isFault("the first byte and no seal", x, 8);
    }

    // ---- 9 HEAD

    static void headOfTheFirstByte() {
        for (int b : new int[] {1, 2, 16, 128, 255}) {
            Press x = taken(3);
            x.harm(1, 0, b);
            x.seal(1);
            isFault("the first byte", x, 9);
        }
        Press x = taken(3);
        x.harm(1, 0, 67 ^ 83);
        x.seal(1);
        isFault("83", x, 9);
    }

    static void headOfTheOtherCrc() {
        for (int i = 1; i <= 4; i++) {
            for (int bit = 0; bit < 8; bit++) {
                Press x = taken(3);
                x.harm(1, i, 1 << bit);
                x.seal(1);
                Due.due("byte " + i + " bit " + bit, x.decodeBoth(), -9);
            }
        }
    }

    static void headOfAnotherStreamsSide() {
        Press x = taken(3);
        x.encode(1, false, 4);
        x.take(1);
        isFault("the SIDE of another", x, 9);
        x = taken(3);
        x.encode(1, false, 4);
        x.take(0);
        isFault("the TAPE of another", x, 9);
        x.take(1);
        Due.due("both of the other", x.decodeBoth(), 10);
    }

    static void headOfTheTapeAsItIs() {
        // A TAPE that was harmed and sealed has another CRC than the SIDE names.
        Press x = Press.with(-1);
        x.encode(1, false, 0);
        x.take(0);
        x.take(1);
        x.harm(0, 6, 6);
        x.seal(0);
        Due.due("decode()", x.again().decode(), 1);
        isFault("decodeBoth()", x, 9);
    }

    static void headCountsAheadOfEndAndRest() {
        Press x = taken(3);
        x.end(1, 9);
        x.harm(1, 0, 1);
        x.seal(1);
        isFault("no bits and the first byte", x, 9);
        x = taken(3);
        x.feed(1, 0, 0, 0);
        x.harm(1, 2, 1);
        x.seal(1);
        isFault("many bits and the other CRC", x, 9);
    }

    // ---- 10 END

    static void endBehindTheBytes() {
        int n = taken(3).count(3);
        Due.yes("there are bits", n > 9);
        for (int k = 9; k < n; k++) {
            Press x = taken(3);
            x.end(1, k);
            x.seal(1);
            isFault(k + " bytes", x, 10);
        }
    }

    static void withoutAnErrorNoBitIsAskedFor() {
        Press x = taken(0);
        Due.due("count(3)", x.count(3), 9);
        Due.due("decodeBoth()", x.decodeBoth(), 10);
    }

    // ---- 11 REST

    static void restOfMoreThanSevenBits() {
        for (int error : new int[] {0, 3}) {
            Press x = taken(error);
            int n = x.count(3);
            int[] grown = Arrays.copyOf(x.stream(1), n - 3);
            grown[n - 4] = 0;
            x.setFed(1, Forge.sealed(grown));
            isFault("eight bits more", x, 11);
        }
    }

    private static Forge oneBit() {
        // A0 is 2 behind four far ones with E 1, so each V has one bit at the side at most.
        Forge forge = new Forge(0, 5, 1);
        for (int i = 0; i < 4; i++) {
            forge.frame(8388607);
        }
        return forge.frame(1);
    }

    static void restOfABitThatIsNotNone() {
        int[] side = oneBit().side();
        Due.due("bytes of the SIDE", side.length, 10);
        Due.due("its bits", side[5], 128);
        for (int bit = 0; bit < 8; bit++) {
            Press x = oneBit().fed();
            x.harm(1, 5, 1 << bit);
            x.seal(1);
            // The highest one is that of V; it makes it 0.
            Due.due("bit " + bit, x.decodeBoth(), bit == 7 ? 5 : -11);
            Due.due("row(4)", x.row(4), 0);
        }
        Press x = oneBit().fed();
        Due.due("right", x.decodeBoth(), 5);
        Due.due("row(4)", x.row(4), 1);
    }

    static void restOfABitWithoutAnError() {
        int[] tape = new Forge(0, 1, 0).frame(7).tape();
        int n = tape.length;
        for (int bits : new int[] {0, 1, 128}) {
            Press x = Press.fresh();
            x.setFed(0, tape);
            x.setFed(1, Forge.sealed(67, tape[n - 4], tape[n - 3], tape[n - 2], tape[n - 1], bits));
            Due.due("a byte more", x.decodeBoth(), -11);
        }
    }

    // ---- 12 BOTH

    /** Behind it LOW may be MAX and HIGH one more: A0 is 1, A1 and A2 are 2. */
    private static Forge nearMax(int error) {
        return nearMax(error, 8);
    }

    private static Forge nearMax(int error, int frames) {
        Forge forge = new Forge(0, frames, error);
        if (error == 0) {
            forge.silence(0);
        }
        for (int ones : new int[] {3, 3, 3, 3, 0, 0, 0}) {
            forge.symbol(0, ones, ones, false);
        }
        return forge;
    }

    static void bothIsAVBeyondMax() {
        long ones = 2 + (2147483647L - 3) / 2;
        for (boolean below : new boolean[] {false, true}) {
            Press x = nearMax(1).symbol(0, ones, 2147483648L, below).fed();
            Due.due("decode() has MAX at most", x.again().decode(), 8);
            Due.due("V is one beyond", x.decodeBoth(), -12);
            Due.due("rows()", x.rows(), 0);
            Due.due("look(0)", x.look(0), 0);
            Due.due("count(2)", x.count(2) + x.count(3), 0);
            x = nearMax(1).symbol(0, ones, 2147483647L, below).fed();
            Due.due("V is MAX", x.decodeBoth(), 8);
            Due.due("row(7)", x.row(7), below ? Integer.MIN_VALUE : Integer.MAX_VALUE);
        }
    }

    static void bothWithoutAnError() {
        long ones = 2 + (2147483647L - 3) / 2;
        Press x = nearMax(0).symbol(0, ones, 2147483648L, false).fed();
        Due.due("decode()", x.again().decode(), 8);
        Due.due("decodeBoth()", x.decodeBoth(), -12);
        x = nearMax(0).symbol(0, ones, 2147483647L, false).fed();
        Due.due("decodeBoth()", x.decodeBoth(), 8);
        Due.due("row(7)", x.row(7), Integer.MAX_VALUE);
    }

    static void bothLeavesAllButTapeAndSide() {
        long ones = 2 + (2147483647L - 3) / 2;
        Press x = taken(3);
        Forge forge = nearMax(1).symbol(0, ones, 2147483648L, false);
        forge.feed(x);
        isFault("BOTH", x, 12);
    }

    static void restCountsAheadOfBoth() {
        long ones = 2 + (2147483647L - 3) / 2;
        Forge forge = nearMax(1).symbol(0, ones, 2147483648L, false).sideBits("00000000");
        Due.due("REST and BOTH", forge.decodeBoth(), -11);
    }

    static void endCountsAheadOfBoth() {
        // The V that is too big is read well ahead of the SIDE's end.
        Forge forge = nearMax(1, 40).symbol(0, 2 + (2147483647L - 3) / 2, 2147483648L, false);
        for (int i = 8; i < 40; i++) {
            forge.frame(1000);
        }
        Press x = forge.fed();
        int n = x.count(3);
        Due.yes("some bytes of bits", n > 11);
        Due.due("all of it", x.again().decodeBoth(), -12);
        x.end(1, n - 1);
        x.seal(1);
        isFault("END and BOTH", x, 10);
    }

    // ---- what it gives

    static void aValueThatIsPutRightGoesRound() {
        Chain chain = new Chain(400, 1);
        while (chain.weight < 1024) {
            chain.rest(3);
        }
        while (chain.forge.median(0, 0) > 26) {
            chain.rest(0);
        }
        Due.yes("A0 will be 2", chain.forge.median(0, 0) >= 16);
        chain.value(-Integer.MAX_VALUE);
        Due.due("weight", chain.weight, 1024);
        // The REST' of -1 is -2, which makes the VALUE' MAX; one more goes round.
        int at = chain.written;
        Due.due("VALUE'", chain.rest(-1), Integer.MAX_VALUE);
        while (chain.written < 400) {
            chain.rest(1);
        }
        Press x = chain.forge.fed();
        Press y = x.again();
        Due.due("decode()", x.decode(), 400);
        Due.due("row", x.row(at), Integer.MAX_VALUE);
        Due.due("decodeBoth()", y.decodeBoth(), 400);
        Due.due("row put right", y.row(at), Integer.MIN_VALUE);
        Due.due("off by", y.look(9), 1);
    }

    static void itTellsHowFarOffTheFirstStreamIs() {
        Press x = taken(3);
        int off = x.look(9);
        Due.yes("off by some", off > 0);
        x.decodeBoth();
        Due.due("look(9)", x.look(9), off);
    }

    static void weightsAndMediansAreThoseOfTheFirstStream() {
        Press x = taken(100);
        int weight = x.weight(0, 0);
        long median = x.median(0, 2);
        x.encode(1, false, 0);
        Due.due("decodeBoth()", x.decodeBoth(), 10);
        Due.due("weight", x.weight(0, 0), weight);
        Due.due("median", x.median(0, 2), median);
        Due.due("E", x.look(5), 100);
    }
}
