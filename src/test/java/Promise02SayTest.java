/** Promise 2: say. */
public final class Promise02SayTest {
    public static void main(String[] args) {
        Due.run(Promise02SayTest.class);
    }

    static Press full(int n) {
        int[] row = new int[n];
        for (int i = 0; i < n; i++) {
            row[i] = i + 1;
        }
        return Press.with(row);
    }

    static void fiveComeBehindTheRowInTheirOrder() {
        Press x = Press.fresh();
        Due.due("say", x.say(1, 2, 3, 4, 5), 5);
        Due.due("say", x.say(6, 7, 8, 9, 10), 10);
        x.isRow(1, 2, 3, 4, 5, 6, 7, 8, 9, 10);
    }

    static void anyNumberMayCome() {
        Press x = Press.fresh();
        Due.due("say", x.say(Integer.MIN_VALUE, Integer.MAX_VALUE, -8388609, 8388608, -1), 5);
        x.isRow(Integer.MIN_VALUE, Integer.MAX_VALUE, -8388609, 8388608, -1);
    }

    static void eachTellsHowManyUpToTwelveHundred() {
        Press x = Press.fresh();
        for (int n = 5; n <= 1200; n += 5) {
            Due.due("say", x.say(n, n + 1, n + 2, n + 3, n + 4), n);
        }
        Due.due("row(0)", x.row(0), 5);
        Due.due("row(1195)", x.row(1195), 1200);
        Due.due("row(1199)", x.row(1199), 1204);
    }

    static void noneComeInAFullRow() {
        Press x = full(1200);
        Due.due("say", x.say(-1, -2, -3, -4, -5), -1);
        Due.due("rows()", x.rows(), 1200);
        Due.due("row(0)", x.row(0), 1);
        Due.due("row(1195)", x.row(1195), 1196);
        Due.due("row(1199)", x.row(1199), 1200);
        Due.due("say once more", x.say(-1, -2, -3, -4, -5), -1);
    }

    static void noneComeWhereFourWouldFit() {
        for (int n = 1196; n < 1200; n++) {
            Press x = full(n);
            Due.due("say at " + n, x.say(-1, -2, -3, -4, -5), -1);
            Due.due("rows()", x.rows(), n);
            Due.due("the last", x.row(n - 1), n);
            for (int i = n; i < 1200; i++) {
                Due.due("row(" + i + ")", x.row(i), 0);
            }
        }
    }

    static void theLastFiveFit() {
        Press x = full(1195);
        Due.due("say", x.say(-1, -2, -3, -4, -5), 1200);
        Due.due("row(1194)", x.row(1194), 1195);
        for (int i = 0; i < 5; i++) {
            Due.due("row", x.row(1195 + i), -1 - i);
        }
    }

    static void itGoesOnBehindACut() {
        Press x = full(10);
        x.cut(3);
        Due.due("say", x.say(-1, -2, -3, -4, -5), 8);
        x.isRow(1, 2, 3, -1, -2, -3, -4, -5);
        x.cut(0);
        Due.due("say", x.say(-1, -2, -3, -4, -5), 5);
    }

    static void itGoesOnBehindWhatWasDecoded() {
        Press x = Press.with(4, -4);
        x.encode(1, false, 0);
        x.take(0);
        x.setRow(1, 2, 3, 4, 5, 6, 7);
        x.decode();
        Due.due("say", x.say(-1, -2, -3, -4, -5), 7);
        x.isRow(4, -4, -1, -2, -3, -4, -5);
    }

    static void aRefusedOneChangesNothing() {
        Press x = full(1200);
        x.pass(3, 2);
        x.encode(2, false, 9);
        x.take(0);
        x.take(1);
        Press y = x.again();
        y.say(1, 2, 3, 4, 5);
        Due.same("all", y.all(), x.all());
    }
}
