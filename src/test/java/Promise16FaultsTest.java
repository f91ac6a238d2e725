/** Promise 16 with "Terms", 4, FAULTS 1 to 6: what the first stream may have wrong, in its order. */
public final class Promise16FaultsTest {
    private static final int[] ONE = {83, 0, 0, 0, 1, 0};
    private static final int[] TWO = {83, 0, 0, 0, 2, 0};
    private static final String GOOD = "00000 0 1";

    public static void main(String[] args) {
        Due.run(Promise16FaultsTest.class);
    }

    private static void decodes(String what, int due, int[] head, String bits) {
        Due.due(what, Forge.decodes(head, bits), due);
    }

    private static int[] head(int... head) {
        return head;
    }

    // ---- 1 SHORT

    static void shortBelowTenBytes() {
        for (int n = 0; n < 10; n++) {
            Press x = Press.fresh();
            x.setFed(0, new int[n]);
            Due.due(n + " bytes", x.decode(), -1);
        }
    }

    static void tenBytesAreNotShort() {
        Press x = Press.fresh();
        x.setFed(0, new int[10]);
        Due.due("CRC", x.decode(), -2);
        decodes("no bits", -4, ONE, "");
    }

    static void shortCountsAheadOfCrc() {
        for (int n = 5; n < 10; n++) {
            Press x = Press.fresh();
            x.setFed(0, Forge.sealed(new int[n - 4]));
            Due.due(n + " bytes with their CRC", x.decode(), -1);
        }
    }

    // ---- 2 CRC

    static void crcOfEachByte() {
        int[] stream = Forge.stream(new int[] {83, 0, 0, 0, 1, 1, 1, 1}, GOOD);
        for (int i = 0; i < stream.length; i++) {
            for (int bit = 0; bit < 8; bit++) {
                Press x = Press.fresh();
                int[] wrong = stream.clone();
                wrong[i] ^= 1 << bit;
                x.setFed(0, wrong);
                Due.due("byte " + i + " bit " + bit, x.decode(), -2);
            }
        }
    }

    static void crcInTheOtherOrder() {
        int[] stream = Forge.stream(ONE, GOOD);
        int n = stream.length;
        int[] turned = stream.clone();
        for (int i = 1; i <= 4; i++) {
            turned[n - i] = stream[n - 5 + i];
        }
        Press x = Press.fresh();
        x.setFed(0, turned);
        Due.due("the lowest first", x.decode(), -2);
    }

    static void crcOfAStreamCutOrGrown() {
        int[] stream = Forge.stream(ONE, GOOD);
        Press x = Press.fresh();
        x.setFed(0, stream);
        x.end(0, stream.length - 1);
        Due.due("cut", x.decode(), -2);
        x.setFed(0, stream);
        x.feed(0, 0, 0, 0);
        x.end(0, stream.length + 1);
        Due.due("grown", x.decode(), -2);
    }

    static void crcCountsAheadOfHead() {
        Press x = Press.fresh();
        x.setFed(0, new int[] {84, 255, 255, 255, 255, 255, 1, 2, 3, 4});
        Due.due("both wrong", x.decode(), -2);
    }

    // ---- 3 HEAD

    static void headOfTheFirstByte() {
        for (int mark : new int[] {0, 67, 82, 84, 211, 255}) {
            decodes("mark " + mark, -3, head(mark, 0, 0, 0, 1, 0), GOOD);
        }
        decodes("mark 83", 1, ONE, GOOD);
    }

    static void headOfEachFlags() {
        for (int flags = 0; flags < 256; flags++) {
            boolean is = flags < 16 && (flags % 8 == 0 || flags % 8 == 1 || flags % 8 == 3 || flags % 8 == 5);
            boolean erring = (flags & 8) != 0;
            int[] head = erring ? head(83, flags, 0, 0, 1, 0, 0, 1) : head(83, flags, 0, 0, 1, 0);
            String bits = (erring ? "" : "00000") + "01" + ((flags & 3) == 1 ? "01" : "");
            decodes("FLAGS " + flags, is ? (flags & 1) + 1 : -3, head, bits);
        }
    }

    static void headOfTheShift() {
        for (int shift = 0; shift < 256; shift++) {
            decodes("SHIFT " + shift, shift <= 23 ? 1 : -3, head(83, 0, shift, 0, 1, 0), GOOD);
        }
    }

    static void headOfTheFrames() {
        decodes("0 FRAMES", -3, head(83, 0, 0, 0, 0, 0), GOOD);
        decodes("1 FRAME", 1, head(83, 0, 0, 0, 1, 0), "00001 0");
        decodes("256 FRAMES", 256, head(83, 0, 0, 1, 0, 0), "01000 00000001");
        decodes("600 FRAMES", 600, head(83, 0, 0, 2, 88, 0), "01001 001011001");
        decodes("601 FRAMES", -3, head(83, 0, 0, 2, 89, 0), "01001 001011010");
        decodes("768 FRAMES", -3, head(83, 0, 0, 3, 0, 0), "01001 100000001");
        decodes("65535 FRAMES", -3, head(83, 0, 0, 255, 255, 0), GOOD);
        decodes("600 FRAMES of twins", 1200, head(83, 3, 0, 2, 88, 0), "01001 001011001");
        decodes("601 FRAMES of twins", -3, head(83, 3, 0, 2, 89, 0), "01001 001011010");
    }

    static void headOfThePasses() {
        decodes("8 PASSES", 1, head(83, 0, 0, 0, 1, 8, 1, 1, 1, 1, 1, 1, 1, 1, 1, 1, 1, 1, 1, 1, 1, 1), GOOD);
        decodes("9 PASSES", -3, head(83, 0, 0, 0, 1, 9, 1, 1, 1, 1, 1, 1, 1, 1, 1, 1, 1, 1, 1, 1, 1, 1, 1, 1), GOOD);
        decodes("255 PASSES", -3, head(83, 0, 0, 0, 1, 255), GOOD);
    }

    static void headOfEachTerm() {
        for (int term = 0; term < 256; term++) {
            boolean is = term >= 1 && term <= 8 || term == 17 || term == 18 || term == 255 || term == 253;
            decodes("TERM " + term, is ? 1 : -3, head(83, 0, 0, 0, 1, 1, term, 1), GOOD);
            decodes("second TERM " + term, is ? 1 : -3, head(83, 0, 0, 0, 1, 2, 1, 1, term, 1), GOOD);
        }
    }

    static void headOfEachDelta() {
        for (int delta = 0; delta < 256; delta++) {
            boolean is = delta >= 1 && delta <= 7;
            decodes("DELTA " + delta, is ? 1 : -3, head(83, 0, 0, 0, 1, 1, 17, delta), GOOD);
            decodes("eighth DELTA " + delta, is ? 1 : -3,
                head(83, 0, 0, 0, 1, 8, 1, 1, 1, 1, 1, 1, 1, 1, 1, 1, 1, 1, 1, 1, 1, delta), GOOD);
        }
    }

    static void headOfAnErrorOfNone() {
        decodes("E 0", -3, head(83, 8, 0, 0, 1, 0, 0, 0), "01");
        decodes("E 1", 1, head(83, 8, 0, 0, 1, 0, 0, 1), "01");
        decodes("E 256", 1, head(83, 8, 0, 0, 1, 0, 1, 0), "01");
        decodes("E 65535", 1, head(83, 8, 0, 0, 1, 0, 255, 255), "01");
    }

    static void headBeyondTheBytes() {
        decodes("no pass", -3, head(83, 0, 0, 0, 1, 1), "");
        decodes("half a pass", -3, head(83, 0, 0, 0, 1, 1, 1), "");
        decodes("a pass", -4, head(83, 0, 0, 0, 1, 1, 1, 1), "");
        decodes("one pass of two", -3, head(83, 0, 0, 0, 1, 2, 1, 1), "");
        decodes("seven and a half of eight", -3, head(83, 0, 0, 0, 1, 8, 1, 1, 1, 1, 1, 1, 1, 1, 1, 1, 1, 1, 1, 1, 1), "");
        decodes("no error", -3, head(83, 8, 0, 0, 1, 0), "");
        decodes("half an error", -3, head(83, 8, 0, 0, 1, 0, 1), "");
        decodes("an error", -4, head(83, 8, 0, 0, 1, 0, 0, 1), "");
        decodes("a pass and no error", -3, head(83, 8, 0, 0, 1, 1, 1, 1), "");
        decodes("a pass and half an error", -3, head(83, 8, 0, 0, 1, 1, 1, 1, 1), "");
        decodes("a pass and an error", -4, head(83, 8, 0, 0, 1, 1, 1, 1, 1, 1), "");
    }

    static void headCountsAheadOfWhatIsRead() {
        decodes("a wrong SHIFT and no bits", -3, head(83, 0, 24, 0, 1, 0), "");
        decodes("a wrong SHIFT and too many bits", -3, head(83, 0, 24, 0, 1, 0), GOOD + "11111111111");
        decodes("a wrong TERM and a SILENCE too long", -3, head(83, 0, 0, 0, 1, 1, 9, 1), "11111");
    }

    // ---- 4 END

    static void endInASilence() {
        decodes("in its five bits", -4, ONE, "");
        decodes("in its number", -4, head(83, 0, 0, 2, 88, 0), "01001 000");
        decodes("at its last bit", -4, head(83, 0, 0, 0, 20, 0), "00100 000");
        decodes("whole", 8, head(83, 0, 0, 0, 8, 0), "00011 001");
    }

    static void endInTheOnes() {
        decodes("three ones", -4, ONE, "00000 111");
        decodes("eleven ones", -4, ONE, "00000 111 11111111");
        decodes("sixteen ones and no G", -4, ONE, "00000 111 11111111 11111");
        decodes("sixteen ones and no number", -4, ONE, "00000 1111111111111111 10000 000000");
    }

    static void endInTheHalving() {
        // Behind four 1s A0 is 2; 5, 12 and 6 bits, and one more of the ONES, fill three bytes.
        Due.due("no bit to halve", behindFourOnes("0").decode(), -4);
        Due.due("bits to halve and a sign", behindFourOnes("0 00").decode(), 7);
    }

    private static Forge behindFourOnes(String bits) {
        return new Forge(0, 7, 0).frame(1).frame(1).frame(1).frame(1).frame(0).frame(0).bits(bits);
    }

    static void endAtTheSign() {
        decodes("no sign", -4, ONE, "00000 110");
        decodes("a sign", 1, ONE, "00000 10 0");
        decodes("no second sign", -4, head(83, 1, 0, 0, 1, 0), "00000 00 0");
    }

    static void endBetweenFrames() {
        decodes("no second frame", -4, TWO, "00000 10 0");
        decodes("no frame behind a SILENCE", -4, head(83, 0, 0, 0, 8, 0), "00011 000");
        decodes("half a frame behind a SILENCE", -4, head(83, 0, 0, 0, 3, 0), "00001 1 11");
        decodes("two frames", 2, TWO, "00000 10 0 0 1");
    }

    static void endWithAnError() {
        int[] head = {83, 8, 0, 0, 5, 0, 0, 1};
        decodes("four of five frames", -4, head, "01 01 01 01");
        decodes("five frames", 5, head, "01 01 01 01 01");
    }

    // ---- 5 BIG

    static void bigIsASilenceBeyondTheFrames() {
        decodes("one beyond", -5, ONE, "00001 1");
        decodes("up to the last", 1, ONE, "00001 0");
        decodes("one beyond of two", -5, TWO, "00010 00");
        decodes("up to the last of two", 2, TWO, "00001 1");
        decodes("601 of 600", -5, head(83, 0, 0, 2, 88, 0), "01001 001011010");
        decodes("far beyond", -5, ONE, "11111 " + "1".repeat(31));
        decodes("2147483648 of one", -5, ONE, "11111 " + "0".repeat(30) + "1");
        decodes("4294967295 of one", -5, ONE, "11111 " + "1".repeat(31));
        decodes("2147483647 of one", -5, ONE, "11111 " + "0".repeat(31));
    }

    static void bigIsASecondSilenceBeyondTheFrames() {
        int[] four = {83, 0, 0, 0, 4, 0};
        decodes("two of the two that are left", 4, four, "00001 0  0 1  00001 1");
        decodes("three of two", -5, four, "00001 0  0 1  00010 00");
    }

    static void bigAreOnesBeyondMax() {
        String ones = "00000 " + "1".repeat(16);
        String most = "11110 " + Integer.toBinaryString(2147483632).substring(1);
        decodes("2147483647", 1, ONE, ones + most + "0");
        String more = "11110 " + Integer.toBinaryString(2147483633).substring(1);
        decodes("2147483648", -5, ONE, ones + more + "0");
        decodes("2147483647 + 15", -5, ONE, ones + "11110 " + "1".repeat(30) + "0");
        decodes("2147483648 + 15", -5, ONE, ones + "11111 " + "0".repeat(31) + "0");
        decodes("4294967295 + 15", -5, ONE, ones + "11111 " + "1".repeat(31) + "0");
    }

    static void bigIsALowBeyondMax() {
        // A0 1, A1 2, A2 2: LOW is 3 + 2 (ONES - 2), so MAX at most with ONES 1073741824.
        decodesBehindMedians("LOW is MAX", 8, 1073741824L, "0 0");
        decodesBehindMedians("LOW is MAX and two", -5, 1073741825L, "0 0");
        decodesBehindMedians("ONES are MAX", -5, 2147483647L, "0 0");
        decodesBehindMedians("LOW is not MAX", 8, 1073741823L, "0 0");
    }

    private static void decodesBehindMedians(String what, int due, long ones, String bits) {
        Forge forge = new Forge(0, 8, 0);
        forge.silence(0);
        for (int ahead : new int[] {3, 3, 3, 3, 0, 0, 0}) {
            forge.symbol(0, ahead, ahead, false);
        }
        forge.bits(Mirror.ones(ones)).bits(bits);
        Due.due(what, forge.decode(), due);
    }

    static void bigIsALowBeyondMaxOfOneOrTwoOnes() {
        // Far RESTS make A0 so great that LOW of ONES 1 is beyond.
        Forge forge = new Forge(0, 600, 0);
        int frames = 0;
        while (forge.median(0, 0) >> 4 < 2147483647L && frames < 590) {
            forge.frame(Integer.MAX_VALUE);
            frames++;
        }
        Due.yes("A0 is beyond", forge.median(0, 0) >> 4 >= 2147483647L);
        forge.bits("10").bits("0".repeat(40));
        Due.due("ONES 1", forge.decode(), -5);
        // A0 and A1 together are, and neither of them alone: ONES 2 are too big, ONES 1 are not.
        Due.due("ONES 2", withSumBeyond("110").decode(), -5);
        Due.due("ONES 1", withSumBeyond("10").decode(), -4);
    }

    private static Forge withSumBeyond(String bits) {
        Forge forge = new Forge(0, 600, 0);
        for (int i = 0; i < 590 && (forge.median(0, 0) >> 4) + (forge.median(0, 1) >> 4) + 2 <= 2147483647L; i++) {
            forge.frame(Integer.MAX_VALUE);
        }
        Due.yes("A0 is not beyond", forge.median(0, 0) >> 4 < 2147483647L);
        return forge.bits(bits).bits("0".repeat(40));
    }

    static void bigIsToldAsItIsKnown() {
        // The bytes end right there: behind what is too big nothing is asked for, so there is no END.
        decodes("a SILENCE", -5, ONE, "00011 000");
        String ones = "00000 1111111111111111 11110 ";
        decodes("ONES", -5, ONE, ones + "1".repeat(30));
        decodes("ONES that are not too big", -4, ONE, ones + "0".repeat(30));
        // 34 bits and 4 more ahead of 50, which are eleven bytes; a bit to halve is due behind them.
        Due.due("a LOW", behindTenFrames(1073741825L).decode(), -5);
        Due.due("a LOW that is not too big", behindTenFrames(1073741824L).decode(), -4);
    }

    private static Forge behindTenFrames(long ones) {
        Forge forge = new Forge(0, 10, 0);
        forge.silence(0);
        for (int ahead : new int[] {3, 3, 3, 3, 0, 0, 0, 0, 0}) {
            forge.symbol(0, ahead, ahead, false);
        }
        return forge.bits(Mirror.ones(ones));
    }

    static void bigCountsAheadOfAnEndToCome() {
        decodes("a SILENCE too long", -5, head(83, 0, 0, 0, 9, 0), "00011 100");
        decodes("an END ahead of it", -4, head(83, 0, 0, 0, 9, 0), "00000 111");
    }

    static void endCountsAheadOfABigThatIsNotKnown() {
        decodes("a SILENCE whose number ends", -4, ONE, "11111 " + "1".repeat(27));
        decodes("ONES whose number ends", -4, ONE, "00000 " + "1".repeat(16) + "11111 " + "1".repeat(30));
    }

    // ---- 6 REST

    static void restOfSevenBitsThatAreNone() {
        decodes("none left", 1, ONE, "00000 10 0");
        decodes("one left", 1, ONE, "00000 0 1 0");
        decodes("two left", 1, ONE, "00001 0 00");
        decodes("seven left", 1, ONE, "00000 110 0 0000000");
    }

    static void restOfMoreThanSevenBits() {
        decodes("eight left", -6, ONE, "00000 10 0 00000000");
        decodes("nine left", -6, ONE, "00000 0 1 0 00000000");
        decodes("fifteen left", -6, ONE, "00000 110 0 0000000 00000000");
        decodes("far more", -6, ONE, "00000 10 0" + "0".repeat(800));
    }

    static void restOfABitThatIsNotNone() {
        decodes("the only one", -6, ONE, "00000 0 1 1");
        decodes("the first of two", -6, ONE, "00001 0 10");
        decodes("the last of two", -6, ONE, "00001 0 01");
        for (int i = 0; i < 7; i++) {
            String left = "0".repeat(i) + "1" + "0".repeat(6 - i);
            decodes("bit " + i + " of seven", -6, ONE, "00000 110 0 " + left);
        }
    }

    static void restBehindASilenceToTheEnd() {
        decodes("a SILENCE to the end", 3, head(83, 0, 0, 0, 3, 0), "00010 00");
        decodes("and a bit", -6, head(83, 0, 0, 0, 3, 0), "00010 00 1");
        decodes("and eight bits", -6, head(83, 0, 0, 0, 7, 0), "00011 000 00000000");
    }
}
