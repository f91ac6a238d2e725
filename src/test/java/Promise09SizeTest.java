/** Promise 9: size. */
public final class Promise09SizeTest {
    static final int[] OTHERS = {-1, 2, 3, 256, 257, Integer.MIN_VALUE, Integer.MAX_VALUE};

    public static void main(String[] args) {
        Due.run(Promise09SizeTest.class);
    }

    static void aheadOfAnyItIsNone() {
        Press x = Press.fresh();
        Due.due("size(0)", x.size(0), 0);
        Due.due("size(1)", x.size(1), 0);
        x.say(1, 2, 3, 4, 5);
        x.feed(0, 1, 2, 3);
        x.encode(0, false, 0);
        Due.due("size(0)", x.size(0), 0);
        Due.due("size(1)", x.size(1), 0);
    }

    static void anotherWhichIsRefused() {
        Press x = Press.fresh();
        for (int which : OTHERS) {
            Due.due("size(" + which + ")", x.size(which), -1);
        }
        x.say(1, 2, 3, 4, 5);
        x.encode(1, false, 0);
        for (int which : OTHERS) {
            Due.due("size(" + which + ")", x.size(which), -1);
        }
    }

    static void ofBothStreams() {
        Press x = Press.with(-1);
        x.encode(1, false, 0);
        Due.due("size(0)", x.size(0), 11);
        Due.due("size(1)", x.size(1), 9);
        x.setRow(Promise08EncodeTest.filled(8, 8388607));
        x.encode(1, false, 65535);
        Forge due = new Forge(0, 8, 65535);
        for (int i = 0; i < 8; i++) {
            due.frame(8388607);
        }
        Due.due("size(0)", x.size(0), due.tape().length);
        Due.due("size(1)", x.size(1), due.side().length);
        Due.yes("the second one has bits", x.size(1) > 9);
    }

    static void theOneEncodedLastCounts() {
        Press x = Press.with(Promise08EncodeTest.filled(100, 5));
        Due.due("encode", x.encode(1, false, 0), x.size(0));
        Due.yes("a long one", x.size(0) > 30);
        x.setRow(-1);
        x.encode(1, false, 0);
        Due.due("a short one", x.size(0), 11);
    }

    static void aRefusedEncodingLeavesIt() {
        Press x = Press.with(-1);
        x.encode(1, false, 0);
        x.encode(2, false, 0);
        x.encode(1, false, -1);
        Due.due("size(0)", x.size(0), 11);
        Due.due("size(1)", x.size(1), 9);
    }

    static void decodingLeavesIt() {
        Press x = Press.with(-1);
        x.encode(1, false, 0);
        new Forge(1, 2, 7).frame(900, 3).frame(8, 8).feed(x);
        Due.due("decodeBoth()", x.decodeBoth(), 4);
        Due.due("size(0)", x.size(0), 11);
        Due.due("size(1)", x.size(1), 9);
        x.decode();
        Due.due("size(0)", x.size(0), 11);
    }

    static void whatIsFedDoesNotCount() {
        Press x = Press.with(-1);
        x.encode(1, false, 0);
        x.feed(0, 1, 2, 3);
        x.feed(1, 1, 2, 3);
        Due.due("size(0)", x.size(0), 11);
        Due.due("size(1)", x.size(1), 9);
    }
}
