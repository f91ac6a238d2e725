import java.util.ArrayList;
import java.util.List;
import java.util.Random;
import java.util.stream.IntStream;

/**
 * Many sounds and streams, good and bad ones, through the press and through its mirror: promises 8
 * to 10, 13 to 20 with all of "Terms". The seeds are fixed, so each run is the same.
 */
public final class MirrorTest {
    private static final int[] TERMS = {1, 2, 3, 4, 5, 6, 7, 8, 17, 18, -1, -3};
    private static final int[] ERRORS = {0, 0, 0, 1, 2, 3, 7, 10, 100, 1000, 40000, 65535};

    private static final int[] faults = new int[13];
    private static int greatestSize = 0;
    private static int silences = 0;
    private static int sounding = 0;
    private static int greatestOff = 0;
    private static int capped = 0;

    private final Random random;
    private Press press = Press.fresh();
    private Mirror mirror = new Mirror();
    private final String name;

    private MirrorTest(String name, long seed) {
        this.name = name + " " + seed;
        random = new Random(seed);
    }

    public static void main(String[] args) {
        Due.run(MirrorTest.class);
    }

    static void thePressAndItsMirrorAgree() {
        for (int seed = 0; seed < 1500; seed++) {
            new MirrorTest("sounds", seed).runSounds();
            new MirrorTest("harmed", seed).runHarmed();
            new MirrorTest("forged", seed).runForged();
        }
        for (int seed = 0; seed < 20; seed++) {
            new MirrorTest("long", seed).runLong();
            new MirrorTest("noisy", seed).runNoisy();
            new MirrorTest("trained", seed).runTrained();
        }
        for (int seed = 0; seed < 200; seed++) {
            new MirrorTest("settled", seed).runSettled();
        }
        edgesWereMet();
    }

    // Chance must not leave out what the document tells of.
    private static void edgesWereMet() {
        for (int fault = 1; fault <= 12; fault++) {
            Due.yes("fault " + fault + " came, " + faults[fault] + " times,", faults[fault] >= 3);
        }
        Due.yes("frames that sound were passed over, " + sounding + ",", sounding >= 20);
        Due.yes("there were silences, " + silences + ",", silences > 0);
        Due.yes("a value was far off, " + greatestOff + ",", greatestOff >= 30000);
        Due.yes("a rest was beyond all, " + capped + " times,", capped > 0);
        Due.yes("a stream was long, " + greatestSize + ",", greatestSize >= 4000);
    }

    private void due(String call, long got, long want) {
        Due.due(name + ": " + call, got, want);
    }

    // ---- what both are asked

    /** All places below n, or where there are many the first and the last and some between. */
    private int[] places(int n) {
        if (n <= 120) {
            return IntStream.range(0, n).toArray();
        }
        int[] places = random.ints(80, 0, n).toArray();
        for (int i = 0; i < 24; i++) {
            places[i] = i;
            places[79 - i] = n - 1 - i;
        }
        return places;
    }

    private void sayAll(int[] samples) {
        press.cut(0);
        for (int i = 0; i < samples.length; i += 5) {
            int[] five = new int[5];
            System.arraycopy(samples, i, five, 0, Math.min(5, samples.length - i));
            press.say(five[0], five[1], five[2], five[3], five[4]);
        }
        press.cut(samples.length);
        mirror.row.clear();
        for (int s : samples) {
            mirror.row.add(s);
        }
    }

    private void makePlan() {
        press.unpass();
        mirror.plan.clear();
        int n = random.nextInt(4) == 0 ? 8 : random.nextInt(5);
        for (int p = 0; p < n; p++) {
            int term = TERMS[random.nextInt(TERMS.length)];
            int delta = 1 + random.nextInt(7);
            due("pass", press.pass(term, delta), p + 1);
            mirror.plan.add(new int[] {term, delta});
        }
    }

    private void encode(int channels, boolean joint, int error) {
        String call = "encode(" + channels + ", " + joint + ", " + error + ")";
        due(call, press.encode(channels, joint, error), mirror.encode(channels, joint, error));
        for (int which = 0; which < 2; which++) {
            List<Integer> bytes = mirror.pressed.get(which);
            due(call + " size " + which, press.size(which), bytes.size());
            for (int i : places(bytes.size())) {
                due(call + " out " + which + " " + i, press.out(which, i), bytes.get(i));
            }
            due(call + " out behind", press.out(which, bytes.size()), -1);
        }
        compare(call);
        silences += press.look(6);
        greatestOff = Math.max(greatestOff, press.look(9));
    }

    private boolean takeBoth() {
        boolean all = true;
        for (int which = 0; which < 2; which++) {
            List<Integer> bytes = mirror.pressed.get(which);
            boolean fits = bytes.size() <= 6000;
            due("take " + which, press.take(which), fits ? bytes.size() : -1);
            if (fits) {
                mirror.fed.get(which).clear();
                mirror.fed.get(which).addAll(bytes);
            } else {
                all = false;
            }
        }
        return all;
    }

    private int decode(boolean both) {
        int want = mirror.decode(both);
        int got = both ? press.decodeBoth() : press.decode();
        String call = both ? "decodeBoth()" : "decode()";
        due(call, got, want);
        if (want < 0) {
            faults[-want]++;
        }
        compare(call);
        return got;
    }

    private void compare(String behind) {
        due(behind + " rows", press.rows(), mirror.row.size());
        for (int i : places(mirror.row.size())) {
            due(behind + " row " + i, press.row(i), mirror.row.get(i));
        }
        for (int what = 0; what < 10; what++) {
            due(behind + " look " + what, press.look(what), mirror.told[what]);
        }
        for (int c = -1; c < 3; c++) {
            boolean coded = c >= 0 && c < mirror.medians.length;
            for (int p = -1; p < 9; p++) {
                boolean is = coded && p >= 0 && p < mirror.passes.plan.size();
                due(behind + " weight", press.weight(p, c), is ? mirror.passes.weight[p][c] : 0);
            }
            for (int k = -1; k < 4; k++) {
                boolean is = coded && k >= 0 && k < 3;
                due(behind + " median", press.median(c, k), is ? mirror.medians[c].m[k] : 0);
            }
        }
        due(behind + " count 2", press.count(2), mirror.fed.get(0).size());
        due(behind + " count 3", press.count(3), mirror.fed.get(1).size());
    }

    private void feedAll(int which, List<Integer> bytes) {
        press.end(which, 0);
        for (int i = 0; i < bytes.size(); i += 12) {
            int[] words = new int[3];
            for (int k = 0; k < 12; k++) {
                int b = i + k < bytes.size() ? bytes.get(i + k) : 0;
                words[k / 4] = words[k / 4] << 8 | b;
            }
            due("feed", press.feed(which, words[0], words[1], words[2]), i + 12);
        }
        press.end(which, bytes.size());
        mirror.fed.get(which).clear();
        mirror.fed.get(which).addAll(bytes);
    }

    // ---- sounds

    private int[] sound(int frames, int channels) {
        int[] samples = new int[frames * channels];
        int kind = random.nextInt(9);
        int loud = 1 << random.nextInt(24);
        int shift = random.nextInt(4) == 0 ? random.nextInt(24) : 0;
        double slow = 0.01 + random.nextDouble();
        int last = 0;
        for (int i = 0; i < samples.length; i++) {
            int frame = i / channels;
            switch (kind) {
                case 0: last = 0; break;
                case 1: last = random.nextInt(3) - 1; break;
                case 2: last = random.nextInt(2 * loud) - loud; break;
                case 3: last = (int) (loud * Math.sin(frame * slow)) + random.nextInt(3); break;
                case 4: last = frame / 9 % 3 == 1 ? random.nextInt(7) - 3 : 0; break;
                case 5: last = random.nextInt(12) == 0 ? random.nextInt(2 * loud) - loud : 0; break;
                case 6: last = frame * (loud >> 10); break;
                case 7: last = random.nextInt(30) == 0 ? random.nextInt(9) - 4 : last; break;
                default: last = frame % 2 == 0 ? -8388608 : 8388607; break;
            }
            samples[i] = Math.max(-8388608, Math.min(8388607, last)) >> shift << shift;
        }
        if (channels == 2 && random.nextInt(5) == 0) {
            for (int i = 0; i < samples.length; i += 2) {
                samples[i + 1] = samples[i];
            }
        }
        return samples;
    }

    private int oneOf(int[] all) {
        return all[random.nextInt(all.length)];
    }

    private void runSounds() {
        for (int round = 0; round < 3; round++) {
            makePlan();
            int channels = 1 + random.nextInt(2);
            int[] samples = sound(1 + random.nextInt(60), channels);
            int error = oneOf(ERRORS);
            sayAll(samples);
            encode(channels, random.nextBoolean(), error);
            readBack(samples, error);
        }
    }

    private void runLong() {
        makePlan();
        int[] samples = sound(600, 2);
        int error = oneOf(ERRORS);
        sayAll(samples);
        encode(2, random.nextBoolean(), error);
        readBack(samples, error);
    }

    private void runNoisy() {
        makePlan();
        int[] samples = new int[1200];
        for (int i = 0; i < 1200; i++) {
            samples[i] = noise();
        }
        sayAll(samples);
        encode(2, false, 65535);
        readBack(samples, 65535);
    }

    // Weights that a still sound has trained make noise so loud that numbers go round.
    private void runTrained() {
        for (int p = 0; p < 8; p++) {
            press.pass(17, 7);
            mirror.plan.add(new int[] {17, 7});
        }
        int[] samples = new int[1200];
        int calm = 2 * (70 + random.nextInt(80));
        int level = 1 << random.nextInt(23);
        for (int i = 0; i < 1200; i++) {
            samples[i] = i < calm ? level + i % 2 : noise();
        }
        sayAll(samples);
        for (int error : new int[] {0, 65535, 1}) {
            encode(2, error > 0, error);
            greatestSize = Math.max(greatestSize, press.size(0));
            readBack(samples, error);
        }
    }

    private int noise() {
        return random.nextInt(16777216) - 8388608;
    }

    private void readBack(int[] samples, int error) {
        if (!takeBoth()) {
            return;
        }
        decode(false);
        if (error == 0) {
            isRow(samples);
        }
        takeBoth();
        decode(true);
        isRow(samples);
    }

    private void isRow(int[] samples) {
        for (int i : places(samples.length)) {
            due("read back " + i, press.row(i), samples[i]);
        }
    }

    // A sound that stays is foretold exactly at last, so frames that are not 0 are passed over.
    private void runSettled() {
        int passes = 1 + random.nextInt(3);
        for (int p = 0; p < passes; p++) {
            int term = TERMS[random.nextInt(TERMS.length)];
            press.pass(term, 7);
            mirror.plan.add(new int[] {term, 7});
        }
        int channels = 1 + random.nextInt(2);
        int[] samples = new int[channels * (300 + random.nextInt(301))];
        int first = random.nextInt(60) - 30;
        int second = random.nextInt(60) - 30;
        int zeros = 0;
        for (int i = 0; i < samples.length; i++) {
            samples[i] = i % 2 == 0 || channels == 1 ? first : second;
            if (i % 50 == 49 && random.nextInt(3) == 0) {
                samples[i]++;
            }
        }
        for (int i = 0; i < samples.length; i += channels) {
            zeros += samples[i] == 0 && samples[i + channels - 1] == 0 ? 1 : 0;
        }
        sayAll(samples);
        encode(channels, random.nextBoolean(), 0);
        sounding += Math.max(0, press.look(7) - zeros) * (press.look(2) % 4 == 1 ? 1 : 0);
        readBack(samples, 0);
    }

    // ---- streams that were harmed

    private void runHarmed() {
        makePlan();
        int channels = 1 + random.nextInt(2);
        sayAll(sound(1 + random.nextInt(20), channels));
        encode(channels, random.nextBoolean(), oneOf(ERRORS));
        for (int round = 0; round < 6; round++) {
            takeBoth();
            for (int which = 0; which < 2; which++) {
                if (random.nextInt(3) > 0) {
                    harm(which);
                }
            }
            decode(random.nextInt(3) > 0);
        }
    }

    private void harm(int which) {
        List<Integer> bytes = mirror.fed.get(which);
        if (random.nextInt(4) == 0) {
            int n = random.nextInt(bytes.size() + 1);
            due("end", press.end(which, n) ? 1 : 0, 1);
            bytes.subList(n, bytes.size()).clear();
        }
        int times = random.nextInt(3);
        for (int k = 0; k < times && !bytes.isEmpty(); k++) {
            int i = random.nextInt(random.nextBoolean() ? bytes.size() : Math.min(9, bytes.size()));
            int b = 1 << random.nextInt(8);
            due("harm", press.harm(which, i, b | random.nextInt() << 8) ? 1 : 0, 1);
            bytes.set(i, bytes.get(i) ^ b);
        }
        if (random.nextInt(8) > 0) {
            boolean can = bytes.size() >= 5;
            due("seal", press.seal(which) ? 1 : 0, can ? 1 : 0);
            if (can) {
                int crc = Mirror.crc(bytes, bytes.size() - 4);
                bytes.subList(bytes.size() - 4, bytes.size()).clear();
                Mirror.addWord(bytes, crc);
            }
        }
    }

    // ---- streams that no encode() writes: symbols are chosen, not samples

    private void runForged() {
        makePlan();
        int flags = oneOf(new int[] {0, 1, 3, 5}) + (random.nextInt(4) == 0 ? 0 : 8);
        int error = flags >= 8 ? 1 + random.nextInt(random.nextBoolean() ? 65535 : 20) : 0;
        int frames = random.nextInt(20) == 0 ? 600 : 1 + random.nextInt(200);
        int[] told = {0, frames, flags, random.nextInt(24), 0, error};
        StringBuilder one = new StringBuilder();
        StringBuilder two = new StringBuilder();
        forge(one, two, frames, (flags & 3) == 1 ? 2 : 1, error);
        spoil(one);
        spoil(two);
        List<Integer> tape = Mirror.head(told, mirror.plan);
        Mirror.addBits(tape, one.toString());
        int crc = Mirror.crc(tape, tape.size());
        Mirror.addWord(tape, crc);
        List<Integer> side = new ArrayList<>(List.of(67));
        Mirror.addWord(side, crc);
        Mirror.addBits(side, two.toString());
        Mirror.addWord(side, Mirror.crc(side, side.size()));
        if (tape.size() + side.size() > 5800) {
            return;
        }
        for (int round = 0; round < 2; round++) {
            press = Press.fresh();
            mirror = new Mirror();
            feedAll(0, tape);
            feedAll(1, side);
            decode(round == 0);
        }
    }

    private void spoil(StringBuilder bits) {
        int how = random.nextInt(40);
        if (how == 0) {
            bits.append("1");
        } else if (how == 1) {
            bits.append("000000000");
        } else if (how == 2 && bits.length() > 9) {
            bits.setLength(bits.length() - 9);
        }
    }

    private void forge(StringBuilder one, StringBuilder two, int frames, int coded, int error) {
        Mirror.Medians[] medians = {new Mirror.Medians(), new Mirror.Medians()};
        int style = random.nextInt(5);
        boolean behind = false;
        for (int f = 0; f < frames; f++) {
            if (error == 0 && !behind && medians[0].m[0] == 0 && (coded < 2 || medians[1].m[0] == 0)) {
                int n = Math.min(random.nextInt(5), frames - f);
                one.append(Mirror.g(n + 1 + (random.nextInt(60) == 0 ? frames : 0)));
                f += n - 1;
                behind = true;
                continue;
            }
            behind = false;
            for (int c = 0; c < coded; c++) {
                forgeRest(one, two, medians[c], style, error);
            }
        }
    }

    private void forgeRest(StringBuilder one, StringBuilder two, Mirror.Medians m, int style, int error) {
        long most = (Mirror.TOP - m.a(0) - m.a(1)) / m.a(2) + 2;
        long ones = Math.min(most, random.nextInt(4));
        if (style >= 3 || random.nextInt(20) == 0) {
            ones = random.nextInt(3) == 0 ? most : Math.min(most, 3 + random.nextInt(50));
        }
        if (ones > Mirror.TOP || ones < 0) {
            ones = 0;
        }
        if (random.nextInt(4000) == 0) {
            ones = random.nextBoolean() ? most + 1 : Mirror.TOP + random.nextInt(3);
        }
        one.append(Mirror.ones(ones));
        if (ones > Mirror.TOP) {
            return;
        }
        long[] b = m.bounds(ones);
        boolean stays = random.nextInt(style == 4 ? 3 : 60) > 0;
        while (b[1] - b[0] > error) {
            long mid = b[0] + b[1] + 1 >> 1;
            boolean upper = random.nextBoolean() && !(stays && mid > Mirror.TOP - 65536);
            one.append(upper ? '1' : '0');
            b = upper ? new long[] {mid, b[1]} : new long[] {b[0], mid - 1};
        }
        if ((b[0] + b[1] + 1 >> 1) > Mirror.TOP) {
            capped++;
        }
        one.append(random.nextInt(2));
        long n = b[1] - b[0] + 1;
        two.append(Mirror.t(Math.floorMod(random.nextLong(), n), n));
    }
}
