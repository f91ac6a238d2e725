import java.lang.reflect.Field;
import java.util.Random;

/** Promise 13: take. */
public final class Promise13TakeTest {
    public static void main(String[] args) {
        Due.run(Promise13TakeTest.class);
    }

    static void aheadOfAnyThereIsNothingToTake() {
        for (int which = 0; which < 2; which++) {
            Press x = Press.fresh();
            x.feed(0, 1, 2, 3);
            x.feed(1, 1, 2, 3);
            Due.due("take", x.take(which), 0);
            Due.due("count", x.count(2 + which), 0);
            Due.due("the other", x.count(3 - which), 12);
        }
    }

    static void itComesInPlaceOfWhatThereWas() {
        Press x = Press.with(-1);
        x.encode(1, false, 0);
        for (int n : new int[] {0, 5, 24, 1200}) {
            x.setFed(0, new int[n]);
            x.setFed(1, new int[n]);
            Due.due("take(0)", x.take(0), 11);
            Due.due("count(2)", x.count(2), 11);
            Due.due("count(3)", x.count(3), n);
            Due.due("take(1)", x.take(1), 9);
            Due.due("count(3)", x.count(3), 9);
            Due.due("count(2)", x.count(2), 11);
        }
        x.cut(0);
        Due.due("decodeBoth()", x.decodeBoth(), 1);
        x.isRow(-1);
    }

    static void inPlaceOfAFullOne() {
        for (int which = 0; which < 2; which++) {
            Press x = Promise11FeedTest.fed(which, 6000);
            x.say(-1, 0, 0, 0, 0);
            x.cut(1);
            x.encode(1, false, 0);
            Due.due("take", x.take(which), which == 0 ? 11 : 9);
            Due.due("count", x.count(2 + which), which == 0 ? 11 : 9);
        }
    }

    static void itCanBeTakenAgain() {
        Press x = Press.with(-1);
        x.encode(1, false, 0);
        for (int k = 0; k < 3; k++) {
            Due.due("take(0)", x.take(0), 11);
            Due.due("decode()", x.decode(), 1);
        }
        Due.due("take(0)", x.take(0), 11);
        Due.due("take(0)", x.take(0), 11);
        Due.due("count(2)", x.count(2), 11);
    }

    static void theStreamStaysWhatItIs() {
        Press x = Press.with(-1);
        x.encode(1, false, 0);
        x.take(0);
        x.harm(0, 0, 255);
        Due.due("out(0, 0)", x.out(0, 0), 83);
        x.take(0);
        Due.due("decode()", x.decode(), 1);
    }

    static void theOneEncodedLastIsTaken() {
        Press x = Press.with(5, 6, 7);
        x.encode(1, false, 0);
        x.take(0);
        x.setRow(-1);
        x.encode(1, false, 0);
        Due.due("decode() of the one taken", x.decode(), 3);
        x.isRow(5, 6, 7);
        x.take(0);
        Due.due("decode() of the last", x.decode(), 1);
        x.encode(2, false, 0);
        x.take(0);
        Due.due("decode() behind a refused encoding", x.decode(), 1);
    }

    static void anotherWhichIsRefused() {
        Press x = Promise08EncodeTest.busy();
        for (int which : Promise09SizeTest.OTHERS) {
            Press y = x.again();
            Due.due("take(" + which + ")", y.take(which), -1);
            Due.same("all", y.allWithin(), x.allWithin());
        }
    }

    static void aLongOneFits() {
        Random random = new Random(3);
        int[] row = new int[1200];
        for (int i = 0; i < row.length; i++) {
            row[i] = random.nextInt(16777216) - 8388608;
        }
        Press x = Press.with(row);
        Due.yes("long", x.encode(2, false, 0) > 3500);
        Due.due("take(0)", x.take(0), x.size(0));
        x.cut(0);
        Due.due("decode()", x.decode(), 1200);
        x.isRow(row);
    }

    /**
     * No sound is known whose first stream has more than 6000 bytes, so the state is set by hand.
     * An object that holds it in another way is not tested here.
     */
    static void moreThanSixThousandBytesAreRefused() throws IllegalAccessException {
        for (int n : new int[] {5999, 6000, 6001, 7000}) {
            SoundPress x = new SoundPress();
            x.feed(0, 1, 2, 3);
            if (!setLength(x, "first", n)) {
                return;
            }
            Due.due("size(0)", x.size(0), n);
            Due.due("take(0)", x.take(0), n <= 6000 ? n : -1);
            Due.due("count(2)", x.count(2), n <= 6000 ? n : 12);
        }
    }

    private static boolean setLength(SoundPress x, String stream, int n) throws IllegalAccessException {
        try {
            Field bytes = SoundPress.class.getDeclaredField(stream);
            bytes.setAccessible(true);
            Field length = bytes.getType().getDeclaredField("length");
            length.setAccessible(true);
            length.setInt(bytes.get(x), n);
            return true;
        } catch (NoSuchFieldException | IllegalArgumentException another) {
            return false;
        }
    }
}
