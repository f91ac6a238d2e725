/** Promise 20: median. */
public final class Promise20MedianTest {
    public static void main(String[] args) {
        Due.run(Promise20MedianTest.class);
    }

    private static Press learned() {
        Press x = Press.with(1, 3, 2, 3);
        x.encode(2, false, 0);
        return x;
    }

    static void aheadOfAnyThereIsNone() {
        Press x = Press.fresh();
        for (int k = 0; k < 3; k++) {
            Due.due("median(0, " + k + ")", x.median(0, k), 0);
            Due.due("median(1, " + k + ")", x.median(1, k), 0);
        }
    }

    static void ofEachChannel() {
        Press x = learned();
        // First: ONES 1, then 2. Second: ONES 3 twice.
        Due.due("median(0, 0)", x.median(0, 0), 10);
        Due.due("median(0, 1)", x.median(0, 1), 5);
        Due.due("median(0, 2)", x.median(0, 2), 0);
        for (int k = 0; k < 3; k++) {
            Due.due("median(1, " + k + ")", x.median(1, k), 10);
        }
    }

    static void mediansThatAreNone() {
        Press x = learned();
        for (int k : new int[] {-1, -2, -3, 3, 4, 5, 6, Integer.MIN_VALUE, Integer.MAX_VALUE}) {
            Due.due("median(0, " + k + ")", x.median(0, k), 0);
            Due.due("median(1, " + k + ")", x.median(1, k), 0);
        }
    }

    static void channelsThatAreNone() {
        Press x = learned();
        for (int channel : new int[] {-1, -2, 2, 3, Integer.MIN_VALUE, Integer.MAX_VALUE}) {
            for (int k = -3; k < 6; k++) {
                Due.due("median(" + channel + ", " + k + ")", x.median(channel, k), 0);
            }
        }
    }

    static void ofOneChannelThereIsNoSecond() {
        Press x = learned();
        x.encode(1, false, 0);
        Due.yes("median(0, 0)", x.median(0, 0) > 0);
        for (int k = 0; k < 3; k++) {
            Due.due("median(1, " + k + ")", x.median(1, k), 0);
        }
    }

    static void ofTwinsOneChannelIsCoded() {
        Press x = learned();
        x.setRow(3, 3, 3, 3);
        x.encode(2, false, 0);
        for (int k = 0; k < 3; k++) {
            Due.due("median(0, " + k + ")", x.median(0, k), 10);
            Due.due("median(1, " + k + ")", x.median(1, k), 0);
        }
    }

    static void aSilenceHasNone() {
        Press x = learned();
        x.setRow(0, 0, 0, 0);
        x.encode(1, false, 0);
        for (int k = 0; k < 3; k++) {
            Due.due("median(0, " + k + ")", x.median(0, k), 0);
        }
    }

    static void behindADecoding() {
        Press x = learned();
        new Forge(0, 2, 0).frame(3).frame(2).feed(x);
        x.decode();
        Due.due("median(0, 0)", x.median(0, 0), 10);
        Due.due("median(0, 1)", x.median(0, 1), 10);
        Due.due("median(0, 2)", x.median(0, 2), 3);
        Due.due("median(1, 2)", x.median(1, 2), 0);
        new Forge(0, 1, 9).frame(3).feed(x);
        x.decodeBoth();
        for (int k = 0; k < 3; k++) {
            Due.due("median(0, " + k + ")", x.median(0, k), 5);
        }
    }

    static void aFaultAndARefusedEncodingLeaveThem() {
        Press x = learned();
        new Forge(1, 9, 0).frame(500, 9).frame(6, 800).frame(7, 7).feed(x);
        Due.due("decode()", x.decode(), -4);
        x.encode(3, false, 0);
        Due.due("median(0, 0)", x.median(0, 0), 10);
        Due.due("median(0, 1)", x.median(0, 1), 5);
        Due.due("median(1, 2)", x.median(1, 2), 10);
    }

    static void theyAreWide() {
        Forge forge = new Forge(0, 160, 0);
        for (int i = 0; i < 160; i++) {
            forge.frame(Integer.MAX_VALUE);
        }
        Press x = forge.fed();
        Due.due("decode()", x.decode(), 160);
        Due.due("median(0, 2)", x.median(0, 2), forge.median(0, 2));
        Due.yes("beyond 32 bits", x.median(0, 2) > 4294967296L);
    }
}
