/** Promise 1: an empty ROW, PLAN, TAPE, SIDE; nothing is pressed. */
public final class Promise01NewObjectTest {
    public static void main(String[] args) {
        Due.run(Promise01NewObjectTest.class);
    }

    static void theRowIsEmpty() {
        Press x = Press.fresh();
        Due.due("rows()", x.rows(), 0);
        Due.due("count(0)", x.count(0), 0);
        Due.due("row(0)", x.row(0), 0);
        Due.no("cut(1)", x.cut(1));
        Due.yes("cut(0)", x.cut(0));
        Due.due("encode of nothing", x.encode(1, false, 0), -1);
        Due.due("encode of nothing", x.encode(2, true, 0), -1);
    }

    static void thePlanIsEmpty() {
        Press x = Press.fresh();
        Due.due("count(1)", x.count(1), 0);
        Due.due("unpass()", x.unpass(), 0);
        Due.due("say", x.say(1, 2, 3, 4, 5), 5);
        x.encode(1, false, 0);
        Due.due("PASSES of the stream", x.out(0, 5), 0);
    }

    static void theTapeIsEmpty() {
        Press x = Press.fresh();
        Due.due("count(2)", x.count(2), 0);
        Due.no("end(0, 1)", x.end(0, 1));
        Due.yes("end(0, 0)", x.end(0, 0));
        Due.no("harm(0, 0, 1)", x.harm(0, 0, 1));
        Due.no("seal(0)", x.seal(0));
        Due.due("decode()", x.decode(), -1);
        Due.due("decodeBoth()", x.decodeBoth(), -1);
        Due.due("feed", x.feed(0, 1, 2, 3), 12);
    }

    static void theSideIsEmpty() {
        Press x = Press.fresh();
        Due.due("count(3)", x.count(3), 0);
        Due.no("end(1, 1)", x.end(1, 1));
        Due.yes("end(1, 0)", x.end(1, 0));
        Due.no("harm(1, 0, 1)", x.harm(1, 0, 1));
        Due.no("seal(1)", x.seal(1));
        new Forge(0, 1, 0).silence(1).feed(x);
        x.end(1, 0);
        Due.due("decodeBoth()", x.decodeBoth(), -7);
        Due.due("feed", x.feed(1, 1, 2, 3), 12);
    }

    static void nothingIsPressed() {
        Press x = Press.fresh();
        for (int which = 0; which < 2; which++) {
            Due.due("size", x.size(which), 0);
            Due.due("out", x.out(which, 0), -1);
            Due.due("take", x.take(which), 0);
        }
    }

    static void nothingIsToBeLookedAt() {
        Press x = Press.fresh();
        for (int what = 0; what < 10; what++) {
            Due.due("look(" + what + ")", x.look(what), 0);
        }
        for (int channel = 0; channel < 2; channel++) {
            for (int pass = 0; pass < 8; pass++) {
                Due.due("weight", x.weight(pass, channel), 0);
            }
            for (int k = 0; k < 3; k++) {
                Due.due("median", x.median(channel, k), 0);
            }
        }
    }

    static void objectsShareNothing() {
        SoundPress x = new SoundPress();
        SoundPress y = new SoundPress();
        x.say(9, -2, 7, 4, 5);
        x.pass(1, 7);
        x.encode(1, false, 3);
        x.take(0);
        x.take(1);
        Due.due("rows()", y.rows(), 0);
        for (int what = 0; what < 4; what++) {
            Due.due("count(" + what + ")", y.count(what), 0);
        }
        Due.due("size(0)", y.size(0), 0);
        Due.due("look(0)", y.look(0), 0);
        Due.due("median", y.median(0, 0), 0);
        SoundPress z = new SoundPress();
        Due.due("rows()", z.rows(), 0);
        Due.due("count(1)", z.count(1), 0);
        Due.due("decodeBoth()", x.decodeBoth(), 5);
    }

    static void noneIsMinusOne() {
        Due.due("NONE", SoundPress.NONE, -1);
    }
}
