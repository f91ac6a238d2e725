/** All promises: "A call that is refused changes nothing but what is said", and "Uses up". */
public final class PromiseAllRefusedTest {
    private static final int MIN = Integer.MIN_VALUE;
    private static final int MAX = Integer.MAX_VALUE;

    public static void main(String[] args) {
        Due.run(PromiseAllRefusedTest.class);
    }

    private static void refuseAll(Press x) {
        for (int n : new int[] {-1, x.rows() + 1, MIN, MAX}) {
            Due.no("cut(" + n + ")", x.cut(n));
        }
        for (int[] p : new int[][] {{0, 1}, {9, 1}, {-2, 1}, {19, 7}, {1, 0}, {1, 8}, {MIN, MIN}, {MAX, MAX}}) {
            Due.due("pass", x.pass(p[0], p[1]), -1);
        }
        for (int[] e : new int[][] {{0, 0}, {3, 0}, {1, -1}, {1, 65536}, {2, MAX}, {2, MIN}, {MIN, 0}, {MAX, 0}}) {
            Due.due("encode", x.encode(e[0], true, e[1]), -1);
        }
        for (int which : Promise09SizeTest.OTHERS) {
            Due.due("feed", x.feed(which, -1, -1, -1), -1);
            Due.no("end", x.end(which, 0));
            Due.due("take", x.take(which), -1);
            Due.no("harm", x.harm(which, 0, 255));
            Due.no("seal", x.seal(which));
        }
        for (int which = 0; which < 2; which++) {
            int n = x.count(2 + which);
            for (int i : new int[] {-1, n, n + 1, MIN, MAX}) {
                Due.no("harm", x.harm(which, i, 255));
            }
            for (int i : new int[] {-1, n + 1, MIN, MAX}) {
                Due.no("end", x.end(which, i));
            }
        }
    }

    static void ofABusyObject() {
        Press x = Promise08EncodeTest.busy();
        Press y = x.again();
        refuseAll(y);
        Due.same("all", y.allWithin(), x.allWithin());
    }

    static void ofANewObject() {
        Press x = Press.fresh();
        Press y = x.again();
        refuseAll(y);
        Due.due("encode of nothing", y.encode(1, false, 0), -1);
        Due.no("seal(0)", y.seal(0));
        Due.no("seal(1)", y.seal(1));
        Due.same("all", y.allWithin(), x.allWithin());
    }

    static void ofAFullObject() {
        Press x = Press.with(Promise08EncodeTest.filled(1200, 3));
        for (int p = 0; p < 8; p++) {
            x.pass(1 + p, 7);
        }
        x.encode(2, false, 9);
        x.take(0);
        x.take(1);
        Press y = x.again();
        Due.due("say", y.say(1, 2, 3, 4, 5), -1);
        Due.due("pass", y.pass(1, 1), -1);
        Due.due("encode", y.encode(1, false, 0), -1);
        refuseAll(y);
        Due.same("all", y.all(), x.all());
        Due.due("decodeBoth()", y.decodeBoth(), x.decodeBoth());
        Due.same("all", y.all(), x.all());
    }

    static void askingChangesNothing() {
        Press x = Promise08EncodeTest.busy();
        Press y = x.again();
        for (int i : new int[] {MIN, -1, 0, 1, 2, 3, 7, 8, 9, 10, 1199, 1200, 5999, 6000, MAX}) {
            y.row(i);
            y.size(i);
            y.look(i);
            y.count(i);
            for (int k : new int[] {MIN, -1, 0, 1, 2, 3, 8, 6000, MAX}) {
                y.out(i, k);
                y.weight(i, k);
                y.median(i, k);
            }
        }
        y.rows();
        Due.same("all", y.allWithin(), x.allWithin());
    }

    static void tapeAndSideAreEmptyBehindWhateverComes() {
        for (int fault = 0; fault <= 6; fault++) {
            for (boolean both : new boolean[] {false, true}) {
                Press x = Promise08EncodeTest.busy();
                if (fault > 0) {
                    x.setFed(0, Promise16DecodeTest.faulty().get(fault - 1));
                }
                int side = x.count(3);
                Due.due("answer", both ? x.decodeBoth() : x.decode(), fault == 0 ? 6 : -fault);
                Due.due("TAPE", x.count(2), 0);
                Due.due("SIDE", x.count(3), both ? 0 : side);
                Due.no("harm(0, 0, 1)", x.harm(0, 0, 1));
                Due.due("decode()", x.decode(), -1);
            }
        }
    }

    static void fiveHundredAndTwelveCalls() {
        // The last call of an object is as good as its first.
        SoundPress x = new SoundPress();
        for (int i = 0; i < 102; i++) {
            x.cut(0);
            x.say(i, -i, 1, 2, 3);
            x.encode(1, i % 2 == 0, i % 3);
            x.take(0);
            Due.due("decode() " + i, x.decode(), 5);
        }
        Due.due("row(0)", x.row(0), 101);
        Due.due("rows()", x.rows(), 5);
    }
}
