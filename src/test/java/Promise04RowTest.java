/** Promise 4: row. */
public final class Promise04RowTest {
    public static void main(String[] args) {
        Due.run(Promise04RowTest.class);
    }

    static void eachNumberFromTheFirstToTheLast() {
        int[] row = new int[1200];
        for (int i = 0; i < 1200; i++) {
            row[i] = 7 * i - 4000;
        }
        Press.with(row).isRow(row);
    }

    static void behindTheLastThereIsNone() {
        Press x = Press.with(1, 2, 3);
        Due.due("row(2)", x.row(2), 3);
        for (int i : new int[] {3, 4, 5, 1199, 1200, 1201, Integer.MAX_VALUE}) {
            Due.due("row(" + i + ")", x.row(i), 0);
        }
        Press full = Press.with(Promise08EncodeTest.filled(1200, 5));
        Due.due("row(1199)", full.row(1199), 5);
        for (int i : new int[] {1200, 1201, Integer.MAX_VALUE}) {
            Due.due("row(" + i + ")", full.row(i), 0);
        }
    }

    static void aheadOfTheFirstThereIsNone() {
        Press x = Press.with(1, 2, 3);
        for (int i : new int[] {-1, -2, -1200, Integer.MIN_VALUE}) {
            Due.due("row(" + i + ")", x.row(i), 0);
        }
    }

    static void anEmptyRowHasNone() {
        Press x = Press.fresh();
        for (int i : new int[] {-1, 0, 1, 1199}) {
            Due.due("row(" + i + ")", x.row(i), 0);
        }
    }

    static void behindAShorterSoundThatWasDecodedThereIsNone() {
        Press x = Press.with(8, 9);
        x.encode(1, false, 0);
        x.take(0);
        x.setRow(1, 2, 3, 4, 5);
        x.decode();
        x.isRow(8, 9);
        Due.due("row(2)", x.row(2), 0);
        Due.due("row(4)", x.row(4), 0);
    }
}
