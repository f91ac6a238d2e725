import java.util.Random;

/**
 * All promises, with rule 7 of LANGUAGE.md: any calls with any arguments, 512 of each object. None
 * throws, and how many of each there are follows from the answers.
 */
public final class PromiseAllNeverThrowsTest {
    private static final int[] EDGES = {
        Integer.MIN_VALUE, Integer.MIN_VALUE + 1, -8388609, -8388608, -65536, -1025, -4, -3, -2, -1, 0, 1, 2, 3, 4, 5,
        6, 7, 8, 9, 10, 11, 12, 16, 17, 18, 19, 23, 24, 83, 255, 256, 257, 599, 600, 601, 1195, 1199, 1200, 1201, 5988,
        5999, 6000, 6001, 65535, 65536, 8388607, 8388608, Integer.MAX_VALUE - 12, Integer.MAX_VALUE};

    private static int encoded = 0;
    private static final int[] answers = new int[14];

    private final Random random;
    private final SoundPress press = new SoundPress();
    private int rows = 0;
    private int passes = 0;
    private final int[] fed = {0, 0};
    private final int[] sizes = {0, 0};

    private PromiseAllNeverThrowsTest(long seed) {
        random = new Random(seed);
    }

    public static void main(String[] args) {
        Due.run(PromiseAllNeverThrowsTest.class);
    }

    static void anyCallsWithAnyArguments() {
        for (int seed = 0; seed < 4000; seed++) {
            PromiseAllNeverThrowsTest test = new PromiseAllNeverThrowsTest(seed);
            for (int calls = 0; calls < 505; calls += 7) {
                test.change();
                test.ask();
            }
        }
        Due.yes("many were encoded, " + encoded + ",", encoded > 1000);
        Due.yes("many were decoded, " + answers[13] + ",", answers[13] > 1000);
        for (int fault : new int[] {1, 2, 3, 4, 6, 7, 8, 9}) {
            Due.yes("fault " + fault + " came, " + answers[fault] + " times,", answers[fault] > 0);
        }
    }

    private int any() {
        return random.nextInt(8) == 0 ? random.nextInt() : EDGES[random.nextInt(EDGES.length)];
    }

    private int small(int n) {
        return random.nextInt(4) == 0 ? any() : random.nextInt(n);
    }

    private int sample() {
        return random.nextInt(60) == 0 ? any() : random.nextInt(1 << 1 + random.nextInt(20)) - 1;
    }

    private void change() {
        switch (random.nextInt(15)) {
            case 0: case 1: case 2: say(); break;
            case 3: cut(small(20)); break;
            case 4: pass(small(9), small(9)); break;
            case 5: unpass(); break;
            case 6: case 7: encode(small(3), random.nextBoolean(), random.nextBoolean() ? 0 : any()); break;
            case 8: feed(small(2)); break;
            case 9: end(small(2), small(30)); break;
            case 10: case 11: take(small(2)); break;
            case 12: harm(small(2), small(14), any()); break;
            case 13: seal(small(2)); break;
            default: decode(random.nextBoolean()); break;
        }
    }

    private void say() {
        int answer = press.say(sample(), sample(), sample(), sample(), sample());
        Due.due("say", answer, rows + 5 > 1200 ? -1 : rows + 5);
        rows = answer < 0 ? rows : answer;
    }

    private void cut(int n) {
        boolean fine = n >= 0 && n <= rows;
        Due.due("cut(" + n + ")", press.cut(n) ? 1 : 0, fine ? 1 : 0);
        rows = fine ? n : rows;
    }

    private void pass(int term, int delta) {
        boolean fine = Mirror.isTerm(term) && delta >= 1 && delta <= 7 && passes < 8;
        passes += fine ? 1 : 0;
        Due.due("pass(" + term + ", " + delta + ")", press.pass(term, delta), fine ? passes : -1);
    }

    private void unpass() {
        Due.due("unpass()", press.unpass(), passes);
        passes = 0;
    }

    private void encode(int channels, boolean joint, int error) {
        int answer = press.encode(channels, joint, error);
        boolean may = (channels == 1 || channels == 2 && rows % 2 == 0) && error >= 0 && error <= 65535
            && rows > 0 && rows <= 600 * channels;
        if (answer >= 0) {
            Due.yes("encode(" + channels + ", " + joint + ", " + error + ") of " + rows, may && answer >= 11);
            encoded++;
            sizes[0] = answer;
            sizes[1] = press.size(1);
        }
    }

    private static boolean is(int which) {
        return which == 0 || which == 1;
    }

    private void feed(int which) {
        boolean fine = is(which) && fed[which] + 12 <= 6000;
        if (fine) {
            fed[which] += 12;
        }
        Due.due("feed(" + which + ")", press.feed(which, any(), any(), any()), fine ? fed[which] : -1);
    }

    private void end(int which, int n) {
        boolean fine = is(which) && n >= 0 && n <= fed[which];
        Due.due("end(" + which + ", " + n + ")", press.end(which, n) ? 1 : 0, fine ? 1 : 0);
        if (fine) {
            fed[which] = n;
        }
    }

    private void take(int which) {
        Due.due("take(" + which + ")", press.take(which), is(which) ? sizes[which] : -1);
        if (is(which)) {
            fed[which] = sizes[which];
        }
    }

    private void harm(int which, int i, int b) {
        boolean fine = is(which) && i >= 0 && i < fed[which];
        Due.due("harm(" + which + ", " + i + ")", press.harm(which, i, b) ? 1 : 0, fine ? 1 : 0);
    }

    private void seal(int which) {
        boolean fine = is(which) && fed[which] >= 5;
        Due.due("seal(" + which + ")", press.seal(which) ? 1 : 0, fine ? 1 : 0);
    }

    private void decode(boolean both) {
        int answer = both ? press.decodeBoth() : press.decode();
        Due.yes("answer " + answer, answer >= (both ? -12 : -6) && answer <= 1200 && answer != 0);
        Due.yes("SHORT", fed[0] >= 10 || answer == -1);
        answers[answer > 0 ? 13 : -answer]++;
        fed[0] = 0;
        fed[1] = both ? 0 : fed[1];
        rows = answer < 0 ? rows : answer;
    }

    private void ask() {
        Due.due("rows()", press.rows(), rows);
        switch (random.nextInt(4)) {
            case 0:
                Due.due("count(0)", press.count(0), rows);
                Due.due("count(1)", press.count(1), passes);
                Due.due("count(2)", press.count(2), fed[0]);
                Due.due("count(3)", press.count(3), fed[1]);
                break;
            case 1:
                Due.due("size(0)", press.size(0), sizes[0]);
                Due.due("size(1)", press.size(1), sizes[1]);
                int what = any();
                Due.yes("look(" + what + ")", (press.look(what) == -1) == (what < 0 || what > 9));
                break;
            case 2:
                int i = any();
                Due.yes("row(" + i + ")", press.row(i) == 0 || i >= 0 && i < rows);
                int weight = press.weight(small(8), small(2));
                Due.yes("weight " + weight, weight >= -1024 && weight <= 1024);
                Due.yes("median", press.median(small(2), small(3)) >= 0);
                break;
            default:
                int which = small(2);
                int at = small(14);
                int out = press.out(which, at);
                boolean there = is(which) && at >= 0 && at < sizes[which];
                Due.yes("out(" + which + ", " + at + ") " + out, there ? out >= 0 && out <= 255 : out == -1);
                break;
        }
    }
}
