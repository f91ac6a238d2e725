/** Promise 21: count. */
public final class Promise21CountTest {
    public static void main(String[] args) {
        Due.run(Promise21CountTest.class);
    }

    private static void countsAre(Press x, int... due) {
        for (int what = 0; what < 4; what++) {
            Due.due("count(" + what + ")", x.count(what), due[what]);
        }
    }

    static void aNewObjectHasNone() {
        countsAre(Press.fresh(), 0, 0, 0, 0);
    }

    static void eachIsCounted() {
        Press x = Press.with(1, 2, 3);
        x.pass(1, 1);
        x.pass(2, 2);
        x.feed(0, 1, 2, 3);
        x.feed(1, 1, 2, 3);
        x.feed(1, 1, 2, 3);
        countsAre(x, 3, 2, 12, 24);
    }

    static void anotherWhatIsRefused() {
        Press x = Promise08EncodeTest.busy();
        for (int what : new int[] {-1, -2, 4, 5, 256, Integer.MIN_VALUE, Integer.MAX_VALUE}) {
            Due.due("count(" + what + ")", x.count(what), -1);
        }
    }

    static void aFullRowAndPlan() {
        Press x = Press.with(new int[1200]);
        for (int p = 0; p < 8; p++) {
            x.pass(1, 1);
        }
        countsAre(x, 1200, 8, 0, 0);
        x.say(1, 2, 3, 4, 5);
        x.pass(1, 1);
        countsAre(x, 1200, 8, 0, 0);
    }

    static void aFullTape() {
        Press x = Promise11FeedTest.fed(0, 6000);
        countsAre(x, 0, 0, 6000, 0);
        x.feed(0, 1, 2, 3);
        countsAre(x, 0, 0, 6000, 0);
    }

    static void aFullSide() {
        Press x = Promise11FeedTest.fed(1, 6000);
        countsAre(x, 0, 0, 0, 6000);
        x.feed(1, 1, 2, 3);
        countsAre(x, 0, 0, 0, 6000);
    }

    static void itFollowsWhatIsDone() {
        Press x = Press.with(1, 2, 3);
        x.pass(1, 1);
        x.encode(1, false, 0);
        countsAre(x, 3, 1, 0, 0);
        x.take(0);
        countsAre(x, 3, 1, x.size(0), 0);
        x.take(1);
        countsAre(x, 3, 1, x.size(0), 9);
        x.cut(1);
        x.unpass();
        x.end(1, 4);
        countsAre(x, 1, 0, x.size(0), 4);
        x.decode();
        countsAre(x, 3, 0, 0, 4);
        x.take(0);
        x.decodeBoth();
        countsAre(x, 3, 0, 0, 0);
    }
}
