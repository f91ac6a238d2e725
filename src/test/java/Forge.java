import java.util.ArrayList;
import java.util.Arrays;
import java.util.List;
import java.util.zip.CRC32;

/** Both streams written by hand, with any RESTS, also such as no sound gives, and with any bits. */
final class Forge {
    private final int flags;
    private final int frames;
    private final int error;
    private final Mirror.Medians[] medians = {new Mirror.Medians(), new Mirror.Medians()};
    private final List<Integer> plan = new ArrayList<>();
    private final StringBuilder first = new StringBuilder();
    private final StringBuilder second = new StringBuilder();
    private int shift = 0;
    private boolean behind = false;

    /** The FLAG of an error comes by itself. */
    Forge(int flags, int frames, int error) {
        this.flags = error > 0 ? flags | 8 : flags;
        this.frames = frames;
        this.error = error;
    }

    Forge shift(int by) {
        shift = by;
        return this;
    }

    Forge pass(int term, int delta) {
        plan.add(term & 255);
        plan.add(delta);
        return this;
    }

    private int coded() {
        return (flags & 3) == 1 ? 2 : 1;
    }

    private boolean isQuiet() {
        return error == 0 && !behind && medians[0].m[0] == 0 && (coded() < 2 || medians[1].m[0] == 0);
    }

    Forge silence(int n) {
        first.append(Mirror.g(n + 1));
        behind = true;
        return this;
    }

    /** A FRAME of such RESTS, with a SILENCE of none ahead of it where one is due. */
    Forge frame(int... rests) {
        if (isQuiet()) {
            silence(0);
        }
        for (int c = 0; c < rests.length; c++) {
            long v = rests[c] >= 0 ? rests[c] : -1L - rests[c];
            symbol(c, medians[c].onesFor(v), v, rests[c] < 0);
        }
        behind = false;
        return this;
    }

    /** A REST by its ONES and V, which may be above all that a REST has. */
    Forge symbol(int c, long ones, long v, boolean below) {
        first.append(Mirror.ones(ones));
        long[] b = medians[c].bounds(ones);
        while (b[1] - b[0] > error) {
            long mid = b[0] + b[1] + 1 >> 1;
            first.append(v >= mid ? '1' : '0');
            b = v >= mid ? new long[] {mid, b[1]} : new long[] {b[0], mid - 1};
        }
        first.append(below ? '1' : '0');
        second.append(Mirror.t(v - b[0], b[1] - b[0] + 1));
        return this;
    }

    Forge bits(String more) {
        first.append(more.replace(" ", ""));
        return this;
    }

    Forge sideBits(String more) {
        second.append(more.replace(" ", ""));
        return this;
    }

    long median(int c, int k) {
        return medians[c].m[k];
    }

    /** The REST' that such a REST would have if it came next. */
    int near(int c, int rest) {
        Mirror.Medians trial = new Mirror.Medians();
        trial.m = medians[c].m.clone();
        long v = rest >= 0 ? rest : -1L - rest;
        long[] b = trial.bounds(trial.onesFor(v));
        while (b[1] - b[0] > error) {
            long mid = b[0] + b[1] + 1 >> 1;
            b = v >= mid ? new long[] {mid, b[1]} : new long[] {b[0], mid - 1};
        }
        return Mirror.near(b, rest < 0);
    }

    int[] tape() {
        List<Integer> all = new ArrayList<>(List.of(83, flags, shift, frames >> 8, frames & 255, plan.size() / 2));
        all.addAll(plan);
        if ((flags & 8) != 0) {
            all.add(error >> 8);
            all.add(error & 255);
        }
        Mirror.addBits(all, first.toString());
        return sealed(array(all));
    }

    int[] side() {
        int[] tape = tape();
        List<Integer> all = new ArrayList<>(List.of(67));
        for (int i = 4; i > 0; i--) {
            all.add(tape[tape.length - i]);
        }
        Mirror.addBits(all, second.toString());
        return sealed(array(all));
    }

    Press fed() {
        Press x = Press.fresh();
        feed(x);
        return x;
    }

    void feed(Press x) {
        x.setFed(0, tape());
        x.setFed(1, side());
    }

    int decode() {
        return fed().decode();
    }

    int decodeBoth() {
        return fed().decodeBoth();
    }

    static int[] array(List<Integer> bytes) {
        return bytes.stream().mapToInt(b -> b).toArray();
    }

    static int crc(int... bytes) {
        CRC32 crc = new CRC32();
        for (int b : bytes) {
            crc.update(b);
        }
        return (int) crc.getValue();
    }

    /** The bytes and their CRC. */
    static int[] sealed(int... bytes) {
        int crc = crc(bytes);
        int[] all = Arrays.copyOf(bytes, bytes.length + 4);
        for (int i = 0; i < 4; i++) {
            all[bytes.length + i] = crc >>> (24 - 8 * i) & 255;
        }
        return all;
    }

    /** A first stream of such bytes and bits. */
    static int[] stream(int[] head, String bits) {
        List<Integer> all = new ArrayList<>();
        for (int b : head) {
            all.add(b);
        }
        Mirror.addBits(all, bits.replace(" ", ""));
        return sealed(array(all));
    }

    static int decodes(int[] head, String bits) {
        Press x = Press.fresh();
        x.setFed(0, stream(head, bits));
        return x.decode();
    }
}
