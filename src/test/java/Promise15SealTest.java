import java.util.Arrays;

/** Promise 15: seal. */
public final class Promise15SealTest {
    public static void main(String[] args) {
        Due.run(Promise15SealTest.class);
    }

    private static Press taken() {
        Press x = Press.with(-1);
        x.encode(1, false, 0);
        x.take(0);
        x.take(1);
        return x;
    }

    static void theCrcBecomesRight() {
        Press x = taken();
        for (int i = 7; i < 11; i++) {
            x.harm(0, i, 255);
        }
        Due.due("wrong", x.again().decode(), -2);
        Due.yes("seal(0)", x.seal(0));
        Due.due("count(2)", x.count(2), 11);
        Due.due("right", x.decode(), 1);
        x.isRow(-1);
    }

    static void theSidesCrcBecomesRight() {
        Press x = taken();
        for (int i = 5; i < 9; i++) {
            x.harm(1, i, 255);
        }
        Due.due("wrong", x.again().decodeBoth(), -8);
        Due.yes("seal(1)", x.seal(1));
        Due.due("count(3)", x.count(3), 9);
        Due.due("right", x.decodeBoth(), 1);
    }

    static void aRightOneStays() {
        Press x = taken();
        Due.yes("seal(0)", x.seal(0));
        Due.yes("seal(1)", x.seal(1));
        Due.yes("seal(0)", x.seal(0));
        Due.due("decodeBoth()", x.decodeBoth(), 1);
    }

    static void fewerThanFiveAreRefused() {
        int[] first = Forge.sealed(83, 0, 0, 0, 1, 0, 2);
        for (int n = 0; n < 5; n++) {
            Press x = taken();
            x.end(0, n);
            Due.no("seal of " + n, x.seal(0));
            Due.due("count(2)", x.count(2), n);
            // The bytes that it has must be as they were: with the others behind them it can be read.
            int[] rest = new int[12];
            System.arraycopy(first, n, rest, 0, 11 - n);
            int[] words = new int[3];
            for (int i = 0; i < 12; i++) {
                words[i / 4] = words[i / 4] << 8 | rest[i];
            }
            x.feed(0, words[0], words[1], words[2]);
            x.end(0, 11);
            Due.due("decode()", x.decode(), 1);
        }
    }

    static void fewerThanFiveOfTheSideAreRefused() {
        for (int n = 0; n < 5; n++) {
            Press x = taken();
            int[] second = x.stream(1);
            x.end(1, n);
            Due.no("seal of " + n, x.seal(1));
            Due.due("count(3)", x.count(3), n);
            int[] words = new int[3];
            for (int i = 0; i < 12; i++) {
                words[i / 4] = words[i / 4] << 8 | (n + i < 9 ? second[n + i] : 0);
            }
            x.feed(1, words[0], words[1], words[2]);
            x.end(1, 9);
            Due.due("decodeBoth()", x.decodeBoth(), 1);
        }
    }

    static void fiveAreEnough() {
        for (int which = 0; which < 2; which++) {
            Press x = taken();
            x.end(which, 5);
            Due.yes("seal", x.seal(which));
            Due.due("count", x.count(2 + which), 5);
        }
    }

    static void ofFiveTheLastFourBecomeTheCrcOfOne() {
        // The five bytes come first in a stream that is right only with them as they should be.
        Press x = Press.fresh();
        x.feed(0, 0x44000000, 0, 0);
        x.end(0, 5);
        x.seal(0);
        int crc = Forge.crc(0x44);
        int[] whole = Forge.sealed(0x44, crc >>> 24, crc >>> 16 & 255, crc >>> 8 & 255, crc & 255, 9, 9, 9);
        int sum = Forge.crc(Arrays.copyOf(whole, 8));
        x.feed(0, 0x09090900 | sum >>> 24, sum << 8, 0);
        x.end(0, 12);
        Due.due("the CRC is right, the first byte is not", x.decode(), -3);
    }

    static void aFullOne() {
        Press x = Promise11FeedTest.fed(0, 6000);
        Due.yes("seal(0)", x.seal(0));
        Due.due("count(2)", x.count(2), 6000);
        Due.due("decode()", x.decode(), -3);
    }

    static void anEmptyOneIsRefused() {
        Press x = Press.fresh();
        Due.no("seal(0)", x.seal(0));
        Due.no("seal(1)", x.seal(1));
        Due.due("count(2)", x.count(2), 0);
        x = taken();
        x.decodeBoth();
        Due.no("seal(0)", x.seal(0));
        Due.no("seal(1)", x.seal(1));
    }

    static void anotherWhichIsRefused() {
        Press x = taken();
        x.harm(0, 9, 1);
        x.harm(1, 7, 1);
        for (int which : Promise09SizeTest.OTHERS) {
            Due.no("seal(" + which + ")", x.seal(which));
        }
        Due.due("count(2)", x.count(2), 11);
        Due.due("the TAPE stays wrong", x.again().decode(), -2);
        x.seal(0);
        Due.due("the SIDE stays wrong", x.decodeBoth(), -8);
    }

    static void theOtherOneStays() {
        Press x = taken();
        x.harm(0, 9, 1);
        x.seal(1);
        Due.due("decode()", x.decode(), -2);
        x = taken();
        x.harm(1, 7, 1);
        x.seal(0);
        Due.due("decodeBoth()", x.decodeBoth(), -8);
    }

    static void theCrcIsTheKnownOne() {
        // "123456789" has cbf43926: then it is the first byte that is wrong, else the CRC.
        Press x = Press.fresh();
        x.feed(0, 0x31323334, 0x35363738, 0x39cbf439);
        x.feed(0, 0x26000000, 0, 0);
        x.end(0, 13);
        Due.due("right", x.again().decode(), -3);
        Press y = x.again();
        y.seal(0);
        Due.due("right behind seal(0)", y.decode(), -3);
        x.harm(0, 12, 1);
        Due.due("wrong", x.decode(), -2);
    }
}
