/** Promise 7: unpass. */
public final class Promise07UnpassTest {
    public static void main(String[] args) {
        Due.run(Promise07UnpassTest.class);
    }

    static void anEmptyPlanHadNone() {
        Press x = Press.fresh();
        Due.due("unpass()", x.unpass(), 0);
        Due.due("unpass()", x.unpass(), 0);
        Due.due("count(1)", x.count(1), 0);
    }

    static void itTellsHowManyThePlanHad() {
        for (int n = 1; n <= 8; n++) {
            Press x = Press.fresh();
            for (int p = 0; p < n; p++) {
                x.pass(1, 1);
            }
            Due.due("unpass()", x.unpass(), n);
            Due.due("count(1)", x.count(1), 0);
            Due.due("unpass() again", x.unpass(), 0);
        }
    }

    static void aFullPlanHasRoomAgain() {
        Press x = Press.fresh();
        for (int p = 0; p < 9; p++) {
            x.pass(1, 1);
        }
        Due.due("unpass()", x.unpass(), 8);
        Due.due("pass", x.pass(18, 4), 1);
        x.setRow(1);
        x.encode(1, false, 0);
        Due.due("PASSES", x.out(0, 5), 1);
        Due.due("TERM", x.out(0, 6), 18);
        Due.due("DELTA", x.out(0, 7), 4);
    }

    static void theNextSoundIsEncodedWithoutPasses() {
        Press x = Press.with(4, 5, 6, 7);
        x.pass(1, 3);
        x.encode(1, false, 0);
        x.unpass();
        x.encode(1, false, 0);
        Due.due("PASSES", x.look(4), 0);
        Due.due("PASSES of the stream", x.out(0, 5), 0);
        Due.due("weight", x.weight(0, 0), 0);
    }

    static void theStreamsAndLooksStay() {
        Press x = Press.with(4, 5, 6, 7);
        x.pass(1, 3);
        x.encode(1, false, 0);
        x.unpass();
        Due.due("PASSES looked at", x.look(4), 1);
        Due.due("weight", x.weight(0, 0), 9);
        Due.due("PASSES of the stream", x.out(0, 5), 1);
        x.isRow(4, 5, 6, 7);
    }
}
