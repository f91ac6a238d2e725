/** Promise 6: pass. */
public final class Promise06PassTest {
    static final int[] TERMS = {1, 2, 3, 4, 5, 6, 7, 8, 17, 18, -1, -3};

    public static void main(String[] args) {
        Due.run(Promise06PassTest.class);
    }

    private static void isRefused(int term, int delta) {
        Press x = Press.fresh();
        x.pass(2, 3);
        String call = "pass(" + term + ", " + delta + ")";
        Due.due(call, x.pass(term, delta), -1);
        Due.due("count(1) behind " + call, x.count(1), 1);
        planIs(x, 2, 3);
    }

    private static void planIs(Press x, int... plan) {
        x.setRow(1);
        x.encode(1, false, 0);
        Due.due("PASSES", x.out(0, 5), plan.length / 2);
        for (int i = 0; i < plan.length; i++) {
            Due.due("TERMS and DELTAS " + i, x.out(0, 6 + i), plan[i] & 255);
        }
    }

    static void eachTermWithEachDelta() {
        for (int term : TERMS) {
            for (int delta = 1; delta <= 7; delta++) {
                Press x = Press.fresh();
                Due.due("pass(" + term + ", " + delta + ")", x.pass(term, delta), 1);
                planIs(x, term, delta);
            }
        }
    }

    static void eachComesBehindThoseOfThePlan() {
        Press x = Press.fresh();
        Due.due("pass", x.pass(-3, 7), 1);
        Due.due("pass", x.pass(18, 1), 2);
        Due.due("pass", x.pass(-1, 2), 3);
        Due.due("pass", x.pass(18, 1), 4);
        planIs(x, -3, 7, 18, 1, -1, 2, 18, 1);
    }

    static void termsThatAreNone() {
        for (int term : new int[] {0, 9, 10, 16, 19, -2, -4, -8, -17, -18}) {
            isRefused(term, 1);
        }
    }

    static void termsFarOff() {
        for (int term : new int[] {253, 255, 256, 257, 65537, -255, -257, Integer.MIN_VALUE, Integer.MAX_VALUE}) {
            isRefused(term, 1);
        }
    }

    static void deltaTooSmall() {
        isRefused(1, 0);
        isRefused(1, -1);
        isRefused(1, Integer.MIN_VALUE);
    }

    static void deltaTooLarge() {
        isRefused(1, 8);
        isRefused(1, 257);
        isRefused(1, Integer.MAX_VALUE);
    }

    static void bothAreNone() {
        isRefused(0, 0);
        isRefused(9, 8);
    }

    static void eightFillThePlan() {
        Press x = Press.fresh();
        for (int n = 1; n <= 8; n++) {
            Due.due("pass", x.pass(n, 8 - Math.min(n, 7)), n);
        }
        Due.due("count(1)", x.count(1), 8);
        planIs(x, 1, 7, 2, 6, 3, 5, 4, 4, 5, 3, 6, 2, 7, 1, 8, 1);
    }

    static void aNinthIsRefused() {
        Press x = Press.fresh();
        for (int n = 1; n <= 8; n++) {
            x.pass(17, 2);
        }
        Due.due("the ninth", x.pass(1, 1), -1);
        Due.due("the ninth", x.pass(17, 2), -1);
        Due.due("count(1)", x.count(1), 8);
        planIs(x, 17, 2, 17, 2, 17, 2, 17, 2, 17, 2, 17, 2, 17, 2, 17, 2);
    }

    static void refusedOnesTakeNoPlace() {
        Press x = Press.fresh();
        for (int n = 0; n < 20; n++) {
            x.pass(0, 1);
        }
        for (int n = 1; n <= 8; n++) {
            Due.due("pass", x.pass(1, 1), n);
        }
    }

    static void aRefusedOneChangesNothing() {
        Press x = Press.with(1, 2, 3, 4);
        x.pass(3, 2);
        x.encode(2, false, 9);
        x.take(0);
        x.take(1);
        Press y = x.again();
        y.pass(3, 0);
        y.pass(-2, 1);
        Due.same("all", y.allWithin(), x.allWithin());
    }

    static void theStreamsAndLooksStay() {
        Press x = Press.with(4, 5, 6, 7);
        x.pass(1, 3);
        x.encode(1, false, 0);
        int weight = x.weight(0, 0);
        x.pass(2, 3);
        Due.due("PASSES looked at", x.look(4), 1);
        Due.due("weight", x.weight(0, 0), weight);
        Due.due("PASSES of the stream", x.out(0, 5), 1);
    }
}
