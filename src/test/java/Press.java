import java.util.ArrayList;
import java.util.List;

/**
 * A SoundPress that keeps to the 512 calls for which the document promises something: when they are
 * used up, the calls that change something are made again on a new object, and it goes on with that.
 * Each such call must then answer what it answered before.
 */
final class Press {
    private static final int MOST_CALLS = 512;

    private interface Call {
        long on(SoundPress x);
    }

    private final List<Call> changes = new ArrayList<>();
    private final List<Long> answers = new ArrayList<>();
    private SoundPress inner = new SoundPress();
    private int calls = 0;

    private Press() {
    }

    static Press fresh() {
        return new Press();
    }

    static Press with(int... samples) {
        Press x = new Press();
        x.setRow(samples);
        return x;
    }

    /** Another object that has gone through the same calls. */
    Press again() {
        Press other = new Press();
        other.changes.addAll(changes);
        other.answers.addAll(answers);
        other.renew();
        return other;
    }

    private void renew() {
        inner = new SoundPress();
        calls = 0;
        for (int i = 0; i < changes.size(); i++) {
            Due.due("call " + (i + 1) + " made again", changes.get(i).on(inner), answers.get(i));
            calls++;
        }
    }

    private long change(Call call) {
        if (changes.size() >= MOST_CALLS) {
            throw new IllegalStateException("the test changes more than an object is good for");
        }
        if (calls >= MOST_CALLS) {
            renew();
        }
        calls++;
        long answer = call.on(inner);
        changes.add(call);
        answers.add(answer);
        return answer;
    }

    private long ask(Call call) {
        if (changes.size() >= MOST_CALLS) {
            throw new IllegalStateException("the test has no call left to ask with");
        }
        if (calls >= MOST_CALLS) {
            renew();
        }
        calls++;
        return call.on(inner);
    }

    // ---- the document's face

    int say(int a, int b, int c, int d, int e) {
        return (int) change(x -> x.say(a, b, c, d, e));
    }

    boolean cut(int n) {
        return change(x -> x.cut(n) ? 1 : 0) != 0;
    }

    int row(int i) {
        return (int) ask(x -> x.row(i));
    }

    int rows() {
        return (int) ask(SoundPress::rows);
    }

    int pass(int term, int delta) {
        return (int) change(x -> x.pass(term, delta));
    }

    int unpass() {
        return (int) change(SoundPress::unpass);
    }

    int encode(int channels, boolean joint, int error) {
        return (int) change(x -> x.encode(channels, joint, error));
    }

    int size(int which) {
        return (int) ask(x -> x.size(which));
    }

    int out(int which, int i) {
        return (int) ask(x -> x.out(which, i));
    }

    int feed(int which, int a, int b, int c) {
        return (int) change(x -> x.feed(which, a, b, c));
    }

    boolean end(int which, int n) {
        return change(x -> x.end(which, n) ? 1 : 0) != 0;
    }

    int take(int which) {
        return (int) change(x -> x.take(which));
    }

    boolean harm(int which, int i, int b) {
        return change(x -> x.harm(which, i, b) ? 1 : 0) != 0;
    }

    boolean seal(int which) {
        return change(x -> x.seal(which) ? 1 : 0) != 0;
    }

    int decode() {
        return (int) change(SoundPress::decode);
    }

    int decodeBoth() {
        return (int) change(SoundPress::decodeBoth);
    }

    int look(int what) {
        return (int) ask(x -> x.look(what));
    }

    int weight(int pass, int channel) {
        return (int) ask(x -> x.weight(pass, channel));
    }

    long median(int channel, int k) {
        return ask(x -> x.median(channel, k));
    }

    int count(int what) {
        return (int) ask(x -> x.count(what));
    }

    // ---- what tests do often

    void setRow(int... samples) {
        cut(0);
        for (int i = 0; i < samples.length; i += 5) {
            int[] five = new int[5];
            System.arraycopy(samples, i, five, 0, Math.min(5, samples.length - i));
            // The ROW is full at 1200, so five always fit where samples do.
            say(five[0], five[1], five[2], five[3], five[4]);
        }
        cut(samples.length);
    }

    void isRow(int... samples) {
        Due.due("rows()", rows(), samples.length);
        for (int i = 0; i < samples.length; i++) {
            Due.due("row(" + i + ")", row(i), samples[i]);
        }
    }

    /** Puts bytes in place of what the TAPE or the SIDE had. */
    void setFed(int which, int... bytes) {
        end(which, 0);
        for (int i = 0; i < bytes.length; i += 12) {
            int[] words = new int[3];
            for (int k = 0; k < 12; k++) {
                words[k / 4] = words[k / 4] << 8 | (i + k < bytes.length ? bytes[i + k] & 255 : 0);
            }
            feed(which, words[0], words[1], words[2]);
        }
        end(which, bytes.length);
    }

    int[] stream(int which) {
        int[] bytes = new int[Math.max(0, size(which))];
        for (int i = 0; i < bytes.length; i++) {
            bytes[i] = out(which, i);
        }
        return bytes;
    }

    /** All that can be asked of it. */
    List<Long> all() {
        List<Long> told = new ArrayList<>();
        for (int i = 0; i < rows(); i++) {
            told.add((long) row(i));
        }
        for (int what = 0; what < 4; what++) {
            told.add((long) count(what));
        }
        for (int which = 0; which < 2; which++) {
            for (int b : stream(which)) {
                told.add((long) b);
            }
            told.add((long) size(which));
        }
        for (int what = 0; what < 10; what++) {
            told.add((long) look(what));
        }
        for (int channel = 0; channel < 2; channel++) {
            for (int pass = 0; pass < 8; pass++) {
                told.add((long) weight(pass, channel));
            }
            for (int k = 0; k < 3; k++) {
                told.add(median(channel, k));
            }
        }
        return told;
    }

    /** All that can be asked, and what comes of the TAPE, the SIDE and the PLAN, which cannot. */
    List<Long> allWithin() {
        List<Long> told = all();
        Press one = again();
        told.add((long) one.decode());
        told.addAll(one.all());
        Press both = again();
        told.add((long) both.decodeBoth());
        told.addAll(both.all());
        Press plan = again();
        plan.setRow(5, 6, -7, 30);
        told.add((long) plan.encode(1, false, 0));
        told.addAll(plan.all());
        return told;
    }
}
