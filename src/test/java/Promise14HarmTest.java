/** Promise 14: harm. */
public final class Promise14HarmTest {
    public static void main(String[] args) {
        Due.run(Promise14HarmTest.class);
    }

    private static Press taken() {
        Press x = Press.with(-1);
        x.encode(1, false, 0);
        x.take(0);
        x.take(1);
        return x;
    }

    static void itsBitsAreTurned() {
        Press x = taken();
        // 2 is G of 1, ONES 0 and a 1; with 6 turned it is G of 1, ONES 1 and a 0.
        Due.yes("harm(0, 6, 6)", x.harm(0, 6, 6));
        x.seal(0);
        Due.due("decode()", x.decode(), 1);
        x.isRow(1);
        x = taken();
        Due.yes("harm(0, 3, 1)", x.harm(0, 3, 1));
        Due.yes("harm(0, 4, 43)", x.harm(0, 4, 43));
        Due.yes("harm(0, 6, 38)", x.harm(0, 6, 38));
        x.seal(0);
        // 256 + 42 FRAMES and 36, which is 00100 100: a SILENCE of 19 FRAMES at most, then too few bits.
        Due.due("decode()", x.decode(), -4);
    }

    static void eachBitAlone() {
        for (int which = 0; which < 2; which++) {
            for (int i = 0; i < (which == 0 ? 11 : 9); i++) {
                for (int bit = 0; bit < 8; bit++) {
                    Press x = taken();
                    Due.yes("harm", x.harm(which, i, 1 << bit));
                    Due.due("decodeBoth() harmed", x.decodeBoth(), which == 0 ? -2 : -8);
                }
            }
        }
    }

    static void turnedTwiceItIsAsItWas() {
        Press x = taken();
        for (int i = 0; i < 11; i++) {
            x.harm(0, i, 0x5a);
        }
        for (int i = 0; i < 11; i++) {
            x.harm(0, i, 0x5a);
        }
        Due.due("decode()", x.decode(), 1);
    }

    static void theLowestEightBitsCountAlone() {
        Press x = taken();
        for (int b : new int[] {0, 256, 0x7fffff00, 0xffffff00, Integer.MIN_VALUE}) {
            Due.yes("harm(0, 6, " + b + ")", x.harm(0, 6, b));
        }
        Due.yes("harm(0, 6, 0x155)", x.harm(0, 6, 0x155));
        Due.yes("harm(0, 6, 0xffffff55)", x.harm(0, 6, 0xffffff55));
        Due.yes("harm(0, 6, -1)", x.harm(0, 6, -1));
        Due.yes("harm(0, 6, 255)", x.harm(0, 6, 255));
        Due.due("decode()", x.decode(), 1);
    }

    static void theFirstAndTheLastByte() {
        Press x = taken();
        Due.yes("harm(0, 0, 1)", x.harm(0, 0, 1));
        Due.yes("harm(0, 10, 1)", x.harm(0, 10, 1));
        Due.yes("harm(1, 0, 1)", x.harm(1, 0, 1));
        Due.yes("harm(1, 8, 1)", x.harm(1, 8, 1));
        x = Promise11FeedTest.fed(1, 6000);
        Due.yes("harm(1, 5999, 1)", x.harm(1, 5999, 1));
        Due.no("harm(1, 6000, 1)", x.harm(1, 6000, 1));
    }

    static void behindTheLastThereIsNone() {
        Press x = taken();
        for (int i : new int[] {11, 12, 5999, 6000, Integer.MAX_VALUE}) {
            Due.no("harm(0, " + i + ", 1)", x.harm(0, i, 1));
        }
        for (int i : new int[] {9, 10, 11, 5999, Integer.MAX_VALUE}) {
            Due.no("harm(1, " + i + ", 1)", x.harm(1, i, 1));
        }
        Due.due("decodeBoth()", x.decodeBoth(), 1);
    }

    static void aheadOfTheFirstThereIsNone() {
        Press x = taken();
        for (int i : new int[] {-1, -11, Integer.MIN_VALUE}) {
            Due.no("harm(0, " + i + ", 1)", x.harm(0, i, 1));
            Due.no("harm(1, " + i + ", 1)", x.harm(1, i, 1));
        }
        Due.due("decodeBoth()", x.decodeBoth(), 1);
    }

    static void anEmptyOneHasNone() {
        Press x = Press.fresh();
        Due.no("harm(0, 0, 1)", x.harm(0, 0, 1));
        Due.no("harm(1, 0, 1)", x.harm(1, 0, 1));
        x = taken();
        x.decodeBoth();
        Due.no("harm(0, 0, 1)", x.harm(0, 0, 1));
        Due.no("harm(1, 0, 1)", x.harm(1, 0, 1));
    }

    static void behindAnEndThereIsNone() {
        Press x = taken();
        x.end(0, 4);
        Due.no("harm(0, 4, 1)", x.harm(0, 4, 1));
        Due.yes("harm(0, 3, 1)", x.harm(0, 3, 1));
    }

    static void anotherWhichHasNone() {
        Press x = taken();
        for (int which : Promise09SizeTest.OTHERS) {
            Due.no("harm(" + which + ", 0, 1)", x.harm(which, 0, 1));
        }
        Due.due("decodeBoth()", x.decodeBoth(), 1);
    }

    static void theOtherOneStays() {
        Press x = taken();
        x.harm(1, 5, 1);
        Due.due("decode()", x.decode(), 1);
        x = taken();
        x.harm(0, 5, 1);
        x.take(0);
        Due.due("decodeBoth()", x.decodeBoth(), 1);
    }

    static void howManyThereAreStays() {
        Press x = taken();
        x.harm(0, 5, 1);
        x.harm(0, 11, 1);
        Due.due("count(2)", x.count(2), 11);
        Due.due("count(3)", x.count(3), 9);
    }
}
