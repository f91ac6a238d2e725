/** Promise 5: rows. */
public final class Promise05RowsTest {
    public static void main(String[] args) {
        Due.run(Promise05RowsTest.class);
    }

    static void anEmptyRow() {
        Press x = Press.fresh();
        Due.due("rows()", x.rows(), 0);
        x.say(1, 2, 3, 4, 5);
        x.cut(0);
        Due.due("rows()", x.rows(), 0);
    }

    static void aFullRow() {
        Press x = Press.with(new int[1200]);
        Due.due("rows()", x.rows(), 1200);
        x.say(1, 2, 3, 4, 5);
        Due.due("rows()", x.rows(), 1200);
    }

    static void itFollowsSayAndCut() {
        Press x = Press.fresh();
        for (int n = 5; n < 60; n += 5) {
            x.say(0, 0, 0, 0, 0);
            Due.due("rows()", x.rows(), n);
        }
        x.cut(7);
        Due.due("rows()", x.rows(), 7);
        x.cut(8);
        x.cut(-1);
        Due.due("rows()", x.rows(), 7);
    }

    static void encodingLeavesIt() {
        Press x = Press.with(1, 1, 2, 2);
        x.encode(2, true, 5);
        Due.due("rows()", x.rows(), 4);
        x.encode(3, true, 5);
        Due.due("rows()", x.rows(), 4);
    }

    static void decodingMakesItTheSounds() {
        Press x = Press.with(1, 1, 2, 2);
        x.encode(2, true, 5);
        for (int n : new int[] {0, 1200}) {
            x.setRow(new int[n]);
            x.take(0);
            Due.due("decode()", x.decode(), 4);
            Due.due("rows()", x.rows(), 4);
        }
        x.take(0);
        x.take(1);
        x.cut(1);
        x.decodeBoth();
        Due.due("rows()", x.rows(), 4);
    }

    static void aFaultLeavesIt() {
        Press x = Press.with(1, 2, 3);
        Due.due("decode()", x.decode(), -1);
        Due.due("decodeBoth()", x.decodeBoth(), -1);
        Due.due("rows()", x.rows(), 3);
    }
}
