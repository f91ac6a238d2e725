/** Promise 3: cut. */
public final class Promise03CutTest {
    public static void main(String[] args) {
        Due.run(Promise03CutTest.class);
    }

    static void theFirstStayAlone() {
        Press x = Press.with(1, 2, 3, 4, 5);
        Due.yes("cut(3)", x.cut(3));
        x.isRow(1, 2, 3);
        Due.due("row(3)", x.row(3), 0);
        Due.due("row(4)", x.row(4), 0);
    }

    static void asManyAsItHasIsTrue() {
        Press x = Press.with(1, 2, 3, 4, 5);
        Due.yes("cut(5)", x.cut(5));
        x.isRow(1, 2, 3, 4, 5);
        Press full = Press.with(new int[1200]);
        Due.yes("cut(1200)", full.cut(1200));
        Due.due("rows()", full.rows(), 1200);
    }

    static void noneIsTrue() {
        Press x = Press.with(1, 2, 3, 4, 5);
        Due.yes("cut(0)", x.cut(0));
        x.isRow();
        Due.due("row(0)", x.row(0), 0);
        Due.yes("cut(0) of nothing", x.cut(0));
    }

    static void moreThanItHasIsFalse() {
        Press x = Press.with(1, 2, 3, 4, 5);
        Due.no("cut(6)", x.cut(6));
        Due.no("cut(1200)", x.cut(1200));
        Due.no("cut(max)", x.cut(Integer.MAX_VALUE));
        x.isRow(1, 2, 3, 4, 5);
        Press full = Press.with(new int[1200]);
        Due.no("cut(1201)", full.cut(1201));
        Due.due("rows()", full.rows(), 1200);
    }

    static void belowNoneIsFalse() {
        Press x = Press.with(1, 2, 3, 4, 5);
        Due.no("cut(-1)", x.cut(-1));
        Due.no("cut(min)", x.cut(Integer.MIN_VALUE));
        x.isRow(1, 2, 3, 4, 5);
        x.cut(0);
        Due.no("cut(-1) of nothing", x.cut(-1));
        Due.due("rows()", x.rows(), 0);
    }

    static void whatWasCutDoesNotComeBack() {
        Press x = Press.with(1, 2, 3, 4, 5);
        x.cut(2);
        Due.no("cut(5)", x.cut(5));
        Due.no("cut(3)", x.cut(3));
        x.isRow(1, 2);
        Due.due("say", x.say(6, 7, 8, 9, 10), 7);
        x.isRow(1, 2, 6, 7, 8, 9, 10);
    }

    static void whatWasCutIsNotEncoded() {
        Press x = Press.with(1, 2, 9999999);
        Due.due("no SOUND", x.encode(1, false, 0), -1);
        x.cut(2);
        Due.yes("a SOUND", x.encode(1, false, 0) > 0);
        Due.due("FRAMES", x.look(1), 2);
    }

    static void aRefusedOneChangesNothing() {
        Press x = Press.with(1, 2, 3, 4);
        x.pass(3, 2);
        x.encode(2, false, 9);
        x.take(0);
        x.take(1);
        for (int n : new int[] {-1, 5, Integer.MIN_VALUE, Integer.MAX_VALUE}) {
            Press y = x.again();
            Due.no("cut(" + n + ")", y.cut(n));
            Due.same("all", y.allWithin(), x.allWithin());
        }
    }
}
