/** Promise 11: feed. */
public final class Promise11FeedTest {
    public static void main(String[] args) {
        Due.run(Promise11FeedTest.class);
    }

    /** A TAPE or SIDE of so many bytes, that are all 255. */
    static Press fed(int which, int n) {
        Press x = Press.fresh();
        for (int k = 0; k < n; k += 12) {
            x.feed(which, -1, -1, -1);
        }
        x.end(which, n);
        return x;
    }

    static void twelveComeBehindTheRest() {
        for (int which = 0; which < 2; which++) {
            Press x = Press.fresh();
            Due.due("feed", x.feed(which, 1, 2, 3), 12);
            Due.due("feed", x.feed(which, 1, 2, 3), 24);
            Due.due("count", x.count(2 + which), 24);
            Due.due("the other", x.count(3 - which), 0);
            x.end(which, 7);
            Due.due("feed", x.feed(which, 1, 2, 3), 19);
        }
    }

    static void theHighestByteOfEachComesFirst() {
        int[] bytes = Forge.sealed(83, 1, 2, 0, 1, 1, 253, 6, 5, 128);
        Press x = Press.fresh();
        int sum = Forge.crc(83, 1, 2, 0, 1, 1, 253, 6, 5, 128);
        x.feed(0, 83 << 24 | 1 << 16 | 2 << 8, 1 << 24 | 1 << 16 | 253 << 8 | 6, 5 << 24 | 128 << 16 | sum >>> 16);
        x.feed(0, sum << 16 | 0xabcd, -1, -1);
        Due.yes("end", x.end(0, bytes.length));
        // The bits are G of 1, 10 1 and 10 0: -2 and 1, with a SHIFT of 2.
        Due.due("decode()", x.decode(), 2);
        x.isRow(-8, 4);
        Due.due("weight", x.weight(0, 0), 0);
        Due.due("FRAMES", x.look(1), 1);
    }

    static void bytesOfANumberBelowNone() {
        int[] first = Forge.sealed(83, 0, 0, 0, 1, 0, 2);
        Press x = Press.fresh();
        int[] words = new int[3];
        for (int i = 0; i < 12; i++) {
            words[i / 4] = words[i / 4] << 8 | (i < 11 ? first[i] : 255);
        }
        x.feed(0, words[0], words[1], words[2]);
        x.end(0, 11);
        Due.due("decode()", x.decode(), 1);
        x.isRow(-1);
    }

    static void sixThousandFit() {
        for (int which = 0; which < 2; which++) {
            Press x = Press.fresh();
            for (int n = 12; n <= 6000; n += 12) {
                Due.due("feed", x.feed(which, n, -n, Integer.MIN_VALUE), n);
            }
            Due.due("count", x.count(2 + which), 6000);
        }
    }

    static void noneComeBeyondSixThousand() {
        for (int which = 0; which < 2; which++) {
            Press x = fed(which, 6000);
            Due.due("feed", x.feed(which, 1, 2, 3), -1);
            Due.due("count", x.count(2 + which), 6000);
            Due.due("feed", x.feed(which, 1, 2, 3), -1);
            Due.no("end", x.end(which, 6001));
        }
    }

    static void noneComeWhereElevenWouldFit() {
        for (int which = 0; which < 2; which++) {
            for (int n = 5989; n < 6000; n++) {
                Press x = fed(which, n);
                Due.due("feed", x.feed(which, 1, 2, 3), -1);
                Due.due("count", x.count(2 + which), n);
            }
        }
    }

    static void theLastTwelveFit() {
        for (int which = 0; which < 2; which++) {
            Press x = fed(which, 5988);
            Due.due("feed", x.feed(which, 1, 2, 3), 6000);
            x.end(which, 5977);
            Due.due("feed", x.feed(which, 1, 2, 3), 5989);
        }
    }

    static void aFullOtherDoesNotCount() {
        Press x = fed(0, 6000);
        Due.due("feed", x.feed(1, 1, 2, 3), 12);
        x = fed(1, 6000);
        Due.due("feed", x.feed(0, 1, 2, 3), 12);
    }

    static void anotherWhichIsRefused() {
        Press x = Promise08EncodeTest.busy();
        for (int which : Promise09SizeTest.OTHERS) {
            Press y = x.again();
            Due.due("feed(" + which + ")", y.feed(which, 1, 2, 3), -1);
            Due.same("all", y.allWithin(), x.allWithin());
        }
    }

    static void aRefusedOneLeavesTheBytes() {
        // The CRC stands in the last of 5995 bytes; what is left over ahead of it is a REST.
        Press x = Press.fresh();
        int[] bytes = new int[5995 - 4];
        int[] head = {83, 0, 0, 0, 1, 0, 2};
        System.arraycopy(head, 0, bytes, 0, head.length);
        bytes[5990] = 1;
        x.setFed(0, Forge.sealed(bytes));
        Due.due("feed", x.feed(0, -1, -1, -1), -1);
        Due.due("feed", x.feed(0, 0, 0, 0), -1);
        Due.due("decode()", x.decode(), -6);
        x.setFed(0, Forge.sealed(head));
        Due.due("decode()", x.decode(), 1);
    }

    static void anUsedUpTapeIsFedFromItsBegin() {
        Press x = fed(0, 6000);
        x.decode();
        Due.due("feed", x.feed(0, 1, 2, 3), 12);
        x = fed(1, 6000);
        x.decodeBoth();
        Due.due("feed", x.feed(1, 1, 2, 3), 12);
    }
}
