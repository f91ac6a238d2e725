/** Promise 10: out. */
public final class Promise10OutTest {
    public static void main(String[] args) {
        Due.run(Promise10OutTest.class);
    }

    static void aheadOfAnyThereIsNone() {
        Press x = Press.fresh();
        for (int which = 0; which < 2; which++) {
            for (int i : new int[] {-1, 0, 1, Integer.MIN_VALUE, Integer.MAX_VALUE}) {
                Due.due("out(" + which + ", " + i + ")", x.out(which, i), -1);
            }
        }
    }

    static void fromTheFirstToTheLast() {
        Press x = Press.with(-1);
        x.encode(1, false, 0);
        int[] first = Forge.sealed(83, 0, 0, 0, 1, 0, 2);
        int[] second = Forge.sealed(67, first[7], first[8], first[9], first[10]);
        for (int i = 0; i < 11; i++) {
            Due.due("out(0, " + i + ")", x.out(0, i), first[i]);
        }
        for (int i = 0; i < 9; i++) {
            Due.due("out(1, " + i + ")", x.out(1, i), second[i]);
        }
    }

    static void behindTheLastThereIsNone() {
        Press x = Press.with(-1);
        x.encode(1, false, 0);
        for (int i : new int[] {11, 12, 6000, 9600, 100000, Integer.MAX_VALUE}) {
            Due.due("out(0, " + i + ")", x.out(0, i), -1);
        }
        for (int i : new int[] {9, 10, 11, 6000, Integer.MAX_VALUE}) {
            Due.due("out(1, " + i + ")", x.out(1, i), -1);
        }
    }

    static void aheadOfTheFirstThereIsNone() {
        Press x = Press.with(-1);
        x.encode(1, false, 0);
        for (int i : new int[] {-1, -2, -11, Integer.MIN_VALUE}) {
            Due.due("out(0, " + i + ")", x.out(0, i), -1);
            Due.due("out(1, " + i + ")", x.out(1, i), -1);
        }
    }

    static void anotherWhichHasNone() {
        Press x = Press.with(-1);
        x.encode(1, false, 0);
        for (int which : Promise09SizeTest.OTHERS) {
            Due.due("out(" + which + ", 0)", x.out(which, 0), -1);
            Due.due("out(" + which + ", -1)", x.out(which, -1), -1);
        }
    }

    static void aByteIsNeverBelowNone() {
        Press x = Press.with(1);
        x.pass(-1, 1);
        x.pass(-3, 1);
        x.encode(1, false, 65535);
        Due.due("TERM -1", x.out(0, 6), 255);
        Due.due("TERM -3", x.out(0, 8), 253);
        Due.due("E", x.out(0, 10), 255);
        Due.due("E", x.out(0, 11), 255);
    }

    static void ofALongerOneNothingIsLeft() {
        Press x = Press.with(Promise08EncodeTest.filled(100, 8388607));
        x.encode(1, false, 65535);
        Due.yes("long", x.size(0) > 100 && x.size(1) > 20);
        x.setRow(-1);
        x.encode(1, false, 0);
        Due.due("out(0, 11)", x.out(0, 11), -1);
        Due.due("out(1, 9)", x.out(1, 9), -1);
    }

    static void whatIsDoneToTheTapeDoesNotCount() {
        Press x = Press.with(-1);
        x.encode(1, false, 0);
        x.take(0);
        x.take(1);
        x.harm(0, 0, 255);
        x.harm(1, 0, 255);
        x.seal(0);
        x.seal(1);
        x.end(0, 2);
        x.end(1, 2);
        Due.due("out(0, 0)", x.out(0, 0), 83);
        Due.due("out(1, 0)", x.out(1, 0), 67);
        int[] first = Forge.sealed(83, 0, 0, 0, 1, 0, 2);
        Due.due("out(0, 10)", x.out(0, 10), first[10]);
    }

    static void decodingAndRefusedEncodingLeaveIt() {
        Press x = Press.with(-1);
        x.encode(1, false, 0);
        new Forge(1, 2, 7).frame(900, 3).frame(8, 8).feed(x);
        x.decodeBoth();
        x.encode(1, false, 65536);
        int[] first = Forge.sealed(83, 0, 0, 0, 1, 0, 2);
        for (int i = 0; i < 11; i++) {
            Due.due("out(0, " + i + ")", x.out(0, i), first[i]);
        }
        Due.due("out(0, 11)", x.out(0, 11), -1);
    }
}
