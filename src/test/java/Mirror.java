import java.util.ArrayList;
import java.util.List;
import java.util.zip.CRC32;

/**
 * The document once more, said as slowly as possible: texts of bits, lists, whole histories. The
 * press is held against it; it shares no code and no way of working with it.
 */
final class Mirror {
    static final long TOP = 2147483647L;

    List<Integer> row = new ArrayList<>();
    List<int[]> plan = new ArrayList<>();
    List<List<Integer>> fed = List.of(new ArrayList<>(), new ArrayList<>());
    List<List<Integer>> pressed = List.of(new ArrayList<>(), new ArrayList<>());
    int[] told = new int[10];
    Passes passes = new Passes(List.of(), 0);
    Medians[] medians = {};

    static final class Fault extends Exception {
        private static final long serialVersionUID = 1L;
        final int number;

        Fault(int number) {
            this.number = number;
        }
    }

    static final class Medians implements Cloneable {
        static final long[] D = {128, 64, 32};
        long[] m = {0, 0, 0};

        long a(int i) {
            return (m[i] >> 4) + 1;
        }

        void rise(int i) {
            m[i] += ((m[i] + D[i]) / D[i]) * 5;
        }

        void fall(int i) {
            m[i] -= ((m[i] + D[i] - 2) / D[i]) * 2;
        }

        /** Moves for so many ONES; answers LOW and HIGH. */
        long[] bounds(long ones) {
            long a0 = a(0);
            long a1 = a(1);
            long a2 = a(2);
            if (ones == 0) {
                fall(0);
                return new long[] {0, a0 - 1};
            }
            rise(0);
            if (ones == 1) {
                fall(1);
                return new long[] {a0, a0 + a1 - 1};
            }
            rise(1);
            long low = Math.addExact(a0 + a1, Math.multiplyExact(ones - 2, a2));
            if (ones == 2) {
                fall(2);
            } else {
                rise(2);
            }
            return new long[] {low, low + a2 - 1};
        }

        long onesFor(long v) {
            if (v < a(0)) {
                return 0;
            }
            if (v < a(0) + a(1)) {
                return 1;
            }
            return 2 + (v - a(0) - a(1)) / a(2);
        }
    }

    static final class Passes {
        final List<int[]> plan;
        final int channels;
        final int[][] weight;
        final List<List<List<Integer>>> inputs = new ArrayList<>();
        int[] b;
        int[] guess;

        Passes(List<int[]> plan, int channels) {
            this.plan = new ArrayList<>(plan);
            this.channels = channels;
            weight = new int[plan.size()][2];
            for (int p = 0; p < plan.size(); p++) {
                inputs.add(List.of(new ArrayList<>(), new ArrayList<>()));
            }
        }

        Passes twin() {
            Passes other = new Passes(plan, channels);
            for (int p = 0; p < plan.size(); p++) {
                other.weight[p] = weight[p].clone();
                for (int c = 0; c < 2; c++) {
                    other.inputs.get(p).get(c).addAll(inputs.get(p).get(c));
                }
            }
            return other;
        }

        int input(int p, int channel, int frame) {
            List<Integer> all = inputs.get(p).get(channel);
            return frame < 0 ? 0 : all.get(frame);
        }

        /** Sets each B and GUESS with a chain of INPUTS; answers what the last PASS leaves. */
        int leave(int value, int frame, int c) {
            b = new int[plan.size()];
            guess = new int[plan.size()];
            int left = value;
            for (int p = 0; p < plan.size(); p++) {
                int term = plan.get(p)[0];
                if (term >= 1 && term <= 8) {
                    b[p] = input(p, c, frame - term);
                } else if (term == 17) {
                    b[p] = 2 * input(p, c, frame - 1) - input(p, c, frame - 2);
                } else if (term == 18) {
                    int one = input(p, c, frame - 1);
                    b[p] = one + ((one - input(p, c, frame - 2)) >> 1);
                } else if (channels == 1) {
                    b[p] = 0;
                } else if (term == -1) {
                    b[p] = c == 0 ? input(p, 1, frame - 1) : input(p, 0, frame);
                } else {
                    b[p] = input(p, 1 - c, frame - 1);
                }
                long wide = (long) weight[p][c] * (long) b[p] + 512L;
                guess[p] = (int) Math.floorDiv(wide, 1024L);
                left = left - guess[p];
            }
            return left;
        }

        int take(int rest, int c) {
            int left = rest;
            for (int p = plan.size() - 1; p >= 0; p--) {
                int sign = Integer.signum(b[p]) * Integer.signum(left);
                int moved = weight[p][c] + sign * plan.get(p)[1];
                weight[p][c] = moved > 1024 ? 1024 : moved < -1024 ? -1024 : moved;
                left = left + guess[p];
                inputs.get(p).get(c).add(left);
            }
            return left;
        }
    }

    static boolean isTerm(int t) {
        return t >= 1 && t <= 8 || t == 17 || t == 18 || t == -1 || t == -3;
    }

    static String bits(long number, int n) {
        StringBuilder text = new StringBuilder();
        for (int i = n - 1; i >= 0; i--) {
            text.append(number >> i & 1);
        }
        return text.toString();
    }

    static String g(long n) {
        String all = Long.toBinaryString(n);
        return bits(all.length() - 1, 5) + all.substring(1);
    }

    static String t(long o, long n) {
        int k = 0;
        while (1L << (k + 1) <= n) {
            k++;
        }
        long x = (1L << (k + 1)) - n;
        return o < x ? bits(o, k) : bits(o + x, k + 1);
    }

    static String ones(long ones) {
        return ones < 16 ? "1".repeat((int) ones) + "0" : "1".repeat(16) + g(ones - 15);
    }

    static int crc(List<Integer> bytes, int n) {
        CRC32 crc = new CRC32();
        for (int i = 0; i < n; i++) {
            crc.update(bytes.get(i));
        }
        return (int) crc.getValue();
    }

    static void addBits(List<Integer> bytes, String bits) {
        String full = bits + "0".repeat((8 - bits.length() % 8) % 8);
        for (int i = 0; i < full.length(); i += 8) {
            bytes.add(Integer.parseInt(full.substring(i, i + 8), 2));
        }
    }

    static void addWord(List<Integer> bytes, int word) {
        for (int k = 24; k >= 0; k -= 8) {
            bytes.add(word >>> k & 255);
        }
    }

    static int word(List<Integer> bytes, int at) {
        return bytes.get(at) << 24 | bytes.get(at + 1) << 16 | bytes.get(at + 2) << 8 | bytes.get(at + 3);
    }

    static String bitsOf(List<Integer> bytes, int from, int to) {
        StringBuilder text = new StringBuilder();
        for (int i = from; i < to; i++) {
            text.append(bits(bytes.get(i), 8));
        }
        return text.toString();
    }

    // ---- encoding

    int encode(int channels, boolean joint, int error) {
        int n = row.size();
        if (channels != 1 && channels != 2 || error < 0 || error > 65535) {
            return -1;
        }
        if (n == 0 || n % channels != 0 || n / channels > 600) {
            return -1;
        }
        for (int s : row) {
            if (s < -8388608 || s > 8388607) {
                return -1;
            }
        }
        int shift = 0;
        for (int s = 23; s > 0 && shift == 0; s--) {
            boolean all = true;
            boolean some = false;
            for (int v : row) {
                all &= v % (1 << s) == 0;
                some |= v != 0;
            }
            shift = all && some ? s : 0;
        }
        int frames = n / channels;
        boolean twin = channels == 2;
        for (int f = 0; f < frames && channels == 2; f++) {
            twin &= row.get(2 * f).equals(row.get(2 * f + 1));
        }
        int coded = channels == 2 && !twin ? 2 : 1;
        int[][] values = new int[frames][coded];
        for (int f = 0; f < frames; f++) {
            for (int c = 0; c < coded; c++) {
                values[f][c] = Math.floorDiv(row.get(f * channels + c), 1 << shift);
            }
            if (joint && coded == 2) {
                int d = values[f][0] - values[f][1];
                values[f] = new int[] {d, values[f][1] + Math.floorDiv(d, 2)};
            }
        }
        int flags = (channels == 2 ? 1 : 0) + (twin ? 2 : 0) + (joint && coded == 2 ? 4 : 0) + (error != 0 ? 8 : 0);
        write(values, new int[] {channels, frames, flags, shift, plan.size(), error, 0, 0, 0, 0});
        return pressed.get(0).size();
    }

    private void write(int[][] values, int[] looks) {
        told = looks;
        int frames = looks[1];
        int error = looks[5];
        int coded = values[0].length;
        passes = new Passes(plan, coded);
        medians = new Medians[coded];
        for (int c = 0; c < coded; c++) {
            medians[c] = new Medians();
        }
        StringBuilder one = new StringBuilder();
        StringBuilder two = new StringBuilder();
        int quietBehind = -1;
        for (int f = 0; f < frames; f++) {
            if (error == 0 && quietBehind != f && quiet()) {
                int n = silentFrom(values, f);
                one.append(g(n + 1));
                for (int k = 0; k < n; k++, f++) {
                    for (int c = 0; c < coded; c++) {
                        if (passes.leave(values[f][c], f, c) != 0) {
                            throw new IllegalStateException("no silence");
                        }
                        passes.take(0, c);
                    }
                }
                told[6] += n > 0 ? 1 : 0;
                told[7] += n;
                quietBehind = f;
                if (f == frames) {
                    break;
                }
            }
            for (int c = 0; c < coded; c++) {
                int rest = passes.leave(values[f][c], f, c);
                int near = passes.take(writeRest(rest, c, one, two), c);
                told[9] = Math.max(told[9], Math.abs(values[f][c] - near));
            }
        }
        assemble(one.toString(), two.toString());
    }

    private boolean quiet() {
        boolean all = true;
        for (Medians m : medians) {
            all &= m.m[0] == 0;
        }
        return all;
    }

    private int silentFrom(int[][] values, int from) {
        Passes trial = passes.twin();
        int n = 0;
        for (int f = from; f < values.length; f++, n++) {
            for (int c = 0; c < values[f].length; c++) {
                int rest = trial.leave(values[f][c], f, c);
                if (rest != 0) {
                    return n;
                }
                trial.take(0, c);
            }
        }
        return n;
    }

    private int writeRest(int rest, int c, StringBuilder one, StringBuilder two) {
        long v = rest >= 0 ? rest : -1L - rest;
        long ones = medians[c].onesFor(v);
        told[8] = Math.max(told[8], (int) ones);
        long[] b = medians[c].bounds(ones);
        if (v < b[0] || v > b[1]) {
            throw new IllegalStateException("out of bounds");
        }
        one.append(ones(ones));
        while (b[1] - b[0] > told[5]) {
            long mid = b[0] + b[1] + 1 >> 1;
            one.append(v >= mid ? '1' : '0');
            b = v >= mid ? new long[] {mid, b[1]} : new long[] {b[0], mid - 1};
        }
        one.append(rest < 0 ? '1' : '0');
        two.append(t(v - b[0], b[1] - b[0] + 1));
        return near(b, rest < 0);
    }

    static int near(long[] b, boolean below) {
        long v = Math.min(TOP, b[0] + b[1] + 1 >> 1);
        return (int) (below ? -1 - v : v);
    }

    private void assemble(String one, String two) {
        List<Integer> a = pressed.get(0);
        a.clear();
        a.addAll(head(told, plan));
        addBits(a, one);
        int crc = crc(a, a.size());
        addWord(a, crc);
        List<Integer> b = pressed.get(1);
        b.clear();
        b.add(67);
        addWord(b, crc);
        addBits(b, two);
        addWord(b, crc(b, b.size()));
    }

    static List<Integer> head(int[] told, List<int[]> plan) {
        List<Integer> a = new ArrayList<>(List.of(83, told[2], told[3], told[1] / 256, told[1] % 256, plan.size()));
        for (int[] pass : plan) {
            a.add(pass[0] < 0 ? pass[0] + 256 : pass[0]);
            a.add(pass[1]);
        }
        if (told[5] != 0) {
            a.add(told[5] / 256);
            a.add(told[5] % 256);
        }
        return a;
    }

    // ---- decoding

    static final class Bits {
        final String text;
        final int fault;
        int at;

        Bits(String text, int fault) {
            this.text = text;
            this.fault = fault;
        }

        long read(int n) throws Fault {
            long number = 0;
            for (int i = 0; i < n; i++) {
                if (at >= text.length()) {
                    throw new Fault(fault);
                }
                number = number * 2 + text.charAt(at++) - '0';
            }
            return number;
        }

        long g() throws Fault {
            int b = (int) read(5);
            return (1L << b) + read(b);
        }

        long t(long n) throws Fault {
            int k = 63 - Long.numberOfLeadingZeros(n);
            long x = (1L << (k + 1)) - n;
            long o = read(k);
            return o < x ? o : o * 2 + read(1) - x;
        }

        void close(int rest) throws Fault {
            String left = text.substring(at);
            if (left.length() > 7 || left.contains("1")) {
                throw new Fault(rest);
            }
        }
    }

    private int[] newTold;
    private Passes newPasses;
    private Medians[] newMedians;
    private int[][] newValues;
    private List<long[]> bounds;
    private List<Integer> nears;

    int decode(boolean both) {
        try {
            readFirst(fed.get(0));
            if (both) {
                readSecond(fed.get(0), fed.get(1));
            }
        } catch (Fault fault) {
            return -fault.number;
        } finally {
            fed.get(0).clear();
            if (both) {
                fed.get(1).clear();
            }
        }
        told = newTold;
        passes = newPasses;
        medians = newMedians;
        row.clear();
        for (int[] frame : newValues) {
            int[] out = {frame[0], frame.length == 2 ? frame[1] : frame[0]};
            if ((told[2] & 4) != 0) {
                int r = frame[1] - (frame[0] >> 1);
                out = new int[] {frame[0] + r, r};
            }
            for (int c = 0; c < told[0]; c++) {
                row.add(out[c] * (1 << told[3]));
            }
        }
        return row.size();
    }

    private static void check(boolean holds, int fault) throws Fault {
        if (!holds) {
            throw new Fault(fault);
        }
    }

    private void readFirst(List<Integer> tape) throws Fault {
        check(tape.size() >= 10, 1);
        int to = tape.size() - 4;
        check(crc(tape, to) == word(tape, to), 2);
        int flags = tape.get(1);
        int frames = tape.get(3) * 256 + tape.get(4);
        check(tape.get(0) == 83 && flags <= 15 && tape.get(2) <= 23 && frames >= 1 && frames <= 600, 3);
        check(List.of(0, 1, 3, 5).contains(flags & 7), 3);
        int at = 6 + 2 * tape.get(5);
        check(tape.get(5) <= 8 && at <= to, 3);
        List<int[]> itsPlan = new ArrayList<>();
        for (int i = 6; i < at; i += 2) {
            int term = tape.get(i).byteValue();
            check(isTerm(term) && tape.get(i + 1) >= 1 && tape.get(i + 1) <= 7, 3);
            itsPlan.add(new int[] {term, tape.get(i + 1)});
        }
        int error = 0;
        if (flags >= 8) {
            at += 2;
            check(at <= to, 3);
            error = tape.get(at - 2) * 256 + tape.get(at - 1);
            check(error != 0, 3);
        }
        int coded = (flags & 3) == 1 ? 2 : 1;
        newTold = new int[] {1 + flags % 2, frames, flags, tape.get(2), itsPlan.size(), error, 0, 0, 0, 0};
        newPasses = new Passes(itsPlan, coded);
        newMedians = new Medians[coded];
        for (int c = 0; c < coded; c++) {
            newMedians[c] = new Medians();
        }
        newValues = new int[frames][coded];
        bounds = new ArrayList<>();
        nears = new ArrayList<>();
        Bits bits = new Bits(bitsOf(tape, at, to), 4);
        readFrames(bits);
        bits.close(6);
    }

    private void readFrames(Bits bits) throws Fault {
        int frames = newTold[1];
        int coded = newMedians.length;
        boolean behind = false;
        int f = 0;
        while (f < frames) {
            boolean quiet = newTold[5] == 0 && !behind;
            for (Medians m : newMedians) {
                quiet &= m.m[0] == 0;
            }
            if (quiet) {
                long n = bits.g() - 1;
                check(f + n <= frames, 5);
                for (int k = 0; k < n; k++, f++) {
                    for (int c = 0; c < coded; c++) {
                        bounds.add(new long[] {0, 0});
                        takeRest(f, c, 0);
                    }
                }
                newTold[6] += n > 0 ? 1 : 0;
                newTold[7] += (int) n;
                behind = true;
                continue;
            }
            for (int c = 0; c < coded; c++) {
                readRest(bits, f, c);
            }
            behind = false;
            f++;
        }
    }

    private void takeRest(int f, int c, int rest) {
        newPasses.leave(0, f, c);
        nears.add(rest);
        newValues[f][c] = newPasses.take(rest, c);
    }

    private void readRest(Bits bits, int f, int c) throws Fault {
        long ones = 0;
        while (ones < 16 && bits.read(1) == 1) {
            ones++;
        }
        if (ones == 16) {
            ones = bits.g() + 15;
        }
        check(ones <= TOP, 5);
        long[] b = newMedians[c].bounds(ones);
        check(b[0] <= TOP, 5);
        newTold[8] = (int) Math.max(newTold[8], ones);
        while (b[1] - b[0] > newTold[5]) {
            long mid = b[0] + b[1] + 1 >> 1;
            if (bits.read(1) == 1) {
                b[0] = mid;
            } else {
                b[1] = mid - 1;
            }
        }
        bounds.add(b);
        takeRest(f, c, near(b, bits.read(1) == 1));
    }

    private void readSecond(List<Integer> tape, List<Integer> side) throws Fault {
        check(side.size() >= 9, 7);
        int to = side.size() - 4;
        check(crc(side, to) == word(side, to), 8);
        check(side.get(0) == 67 && word(side, 1) == word(tape, tape.size() - 4), 9);
        Bits bits = new Bits(bitsOf(side, 5, to), 10);
        List<Long> vs = new ArrayList<>();
        for (long[] b : bounds) {
            vs.add(b[0] + bits.t(b[1] - b[0] + 1));
        }
        bits.close(11);
        for (int i = 0; i < vs.size(); i++) {
            check(vs.get(i) <= TOP, 12);
            int v = vs.get(i).intValue();
            int off = (nears.get(i) < 0 ? -1 - v : v) - nears.get(i);
            int coded = newMedians.length;
            newValues[i / coded][i % coded] += off;
            newTold[9] = Math.max(newTold[9], Math.abs(off));
        }
    }
}
