/** Promise 12: end. */
public final class Promise12EndTest {
    public static void main(String[] args) {
        Due.run(Promise12EndTest.class);
    }

    private static Press twelve() {
        Press x = Press.fresh();
        x.feed(0, 1, 2, 3);
        x.feed(1, 4, 5, 6);
        return x;
    }

    static void theFirstBytesStayAlone() {
        for (int which = 0; which < 2; which++) {
            Press x = twelve();
            Due.yes("end 7", x.end(which, 7));
            Due.due("count", x.count(2 + which), 7);
            Due.due("the other", x.count(3 - which), 12);
            Due.no("end 8", x.end(which, 8));
        }
        Press y = Press.fresh();
        y.setFed(0, Forge.stream(new int[] {83, 0, 0, 0, 1, 0}, "0000001"));
        y.feed(0, -1, -1, -1);
        Due.yes("end 11", y.end(0, 11));
        Due.due("decode()", y.decode(), 1);
        y.isRow(-1);
    }

    static void asManyAsItHasIsTrue() {
        for (int which = 0; which < 2; which++) {
            Press x = twelve();
            Due.yes("end 12", x.end(which, 12));
            Due.due("count", x.count(2 + which), 12);
            x = Promise11FeedTest.fed(which, 6000);
            Due.yes("end 6000", x.end(which, 6000));
            Due.due("count", x.count(2 + which), 6000);
        }
    }

    static void noneIsTrue() {
        for (int which = 0; which < 2; which++) {
            Press x = twelve();
            Due.yes("end 0", x.end(which, 0));
            Due.due("count", x.count(2 + which), 0);
            Due.yes("end 0", x.end(which, 0));
            Due.no("end 1", x.end(which, 1));
        }
    }

    static void moreThanItHasIsFalse() {
        for (int which = 0; which < 2; which++) {
            Press x = twelve();
            for (int n : new int[] {13, 24, 6000, 6001, Integer.MAX_VALUE}) {
                Due.no("end " + n, x.end(which, n));
                Due.due("count", x.count(2 + which), 12);
            }
            x = Promise11FeedTest.fed(which, 6000);
            Due.no("end 6001", x.end(which, 6001));
            Due.due("count", x.count(2 + which), 6000);
        }
    }

    static void belowNoneIsFalse() {
        for (int which = 0; which < 2; which++) {
            Press x = twelve();
            Due.no("end -1", x.end(which, -1));
            Due.no("end min", x.end(which, Integer.MIN_VALUE));
            Due.due("count", x.count(2 + which), 12);
        }
    }

    static void anotherWhichIsFalse() {
        Press x = Promise08EncodeTest.busy();
        for (int which : Promise09SizeTest.OTHERS) {
            Press y = x.again();
            Due.no("end(" + which + ", 0)", y.end(which, 0));
            Due.no("end(" + which + ", 1)", y.end(which, 1));
            Due.same("all", y.allWithin(), x.allWithin());
        }
    }

    static void aRefusedOneChangesNothing() {
        Press x = Promise08EncodeTest.busy();
        for (int which = 0; which < 2; which++) {
            Press y = x.again();
            Due.no("end", y.end(which, x.count(2 + which) + 1));
            Due.no("end", y.end(which, -1));
            Due.same("all", y.allWithin(), x.allWithin());
        }
    }

    static void whatWasCutDoesNotComeBack() {
        Press x = Press.fresh();
        x.setFed(0, Forge.stream(new int[] {83, 0, 0, 0, 1, 0}, "0000001"));
        x.end(0, 7);
        Due.no("end 11", x.end(0, 11));
        x.feed(0, 0, 0, 0);
        x.end(0, 11);
        Due.due("decode()", x.decode(), -2);
    }
}
