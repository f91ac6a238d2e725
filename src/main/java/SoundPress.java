import java.util.Arrays;

/**
 * A press for sounds: samples of one or two channels foretold by a row of passes whose weights
 * learn by signs, what is left written by three moving medians a channel with runs of silence, as
 * it is, or within an error that is told with a second stream that puts it right; and read back,
 * with the first thing wrong told.
 */
public final class SoundPress {
    public static final int NONE = -1;

    private static final int MOST_NUMBERS = 1200;
    private static final int MOST_FRAMES = 600;
    private static final int MOST_PASSES = 8;
    private static final int MOST_FED = 6000;
    private static final int MOST_ERROR = 65535;
    private static final int MOST_SHIFT = 23;
    private static final int LEAST_SAMPLE = -8388608;
    private static final int MOST_SAMPLE = 8388607;
    private static final long MOST = 2147483647L;

    // A REST takes at most 54 bits and a SILENCE 14, so 600 FRAMES stay below 9200 bytes.
    private static final int MOST_FIRST = 9600;
    // A T takes at most 16 bits.
    private static final int MOST_SECOND = 2450;

    private static final int FIRST_MARK = 83;
    private static final int SECOND_MARK = 67;
    private static final int FIRST_HEAD = 6;
    private static final int SECOND_HEAD = 5;
    private static final int CRC_BYTES = 4;

    private static final int FLAG_TWO = 1;
    private static final int FLAG_TWIN = 2;
    private static final int FLAG_JOINT = 4;
    private static final int FLAG_ERROR = 8;

    private static final int FAULT_SHORT = 1;
    private static final int FAULT_CRC = 2;
    private static final int FAULT_HEAD = 3;
    private static final int FAULT_END = 4;
    private static final int FAULT_BIG = 5;
    private static final int FAULT_REST = 6;
    private static final int FAULT_SIDE_SHORT = 7;
    private static final int FAULT_SIDE_CRC = 8;
    private static final int FAULT_SIDE_HEAD = 9;
    private static final int FAULT_SIDE_END = 10;
    private static final int FAULT_SIDE_REST = 11;
    private static final int FAULT_BOTH = 12;

    // CRC-32 by half bytes: sixteen numbers are enough and can be written out.
    private static final int[] CRC_STEPS = {
        0x00000000, 0x1db71064, 0x3b6e20c8, 0x26d930ac,
        0x76dc4190, 0x6b6b51f4, 0x4db26158, 0x5005713c,
        0xedb88320, 0xf00f9344, 0xd6d6a3e8, 0xcb61b38c,
        0x9b64c2b0, 0x86d3d2d4, 0xa00ae278, 0xbdbdf21c
    };

    private final int[] numbers;
    private int length;
    private final Plan plan;
    private final Bytes tape;
    private final Bytes side;
    private final Bytes first;
    private final Bytes second;
    private final Encoder encoder;
    private final Decoder decoder;
    private Work last;
    private Work spare;

    public SoundPress() {
        numbers = new int[MOST_NUMBERS];
        length = 0;
        plan = new Plan();
        tape = new Bytes(MOST_FED);
        side = new Bytes(MOST_FED);
        first = new Bytes(MOST_FIRST);
        second = new Bytes(MOST_SECOND);
        Sheet sheet = new Sheet();
        encoder = new Encoder(first, second, sheet);
        decoder = new Decoder(tape, side, sheet);
        last = new Work();
        spare = new Work();
    }

    public int say(int a, int b, int c, int d, int e) {
        if (length < 0 || length + 5 > numbers.length) {
            return NONE;
        }
        numbers[length] = a;
        numbers[length + 1] = b;
        numbers[length + 2] = c;
        numbers[length + 3] = d;
        numbers[length + 4] = e;
        length += 5;
        return length;
    }

    public boolean cut(int n) {
        if (n < 0 || n > length) {
            return false;
        }
        length = n;
        return true;
    }

    public int row(int i) {
        return i >= 0 && i < length && i < numbers.length ? numbers[i] : 0;
    }

    public int rows() {
        return length;
    }

    public int pass(int term, int delta) {
        return plan.add(term, delta) ? plan.number : NONE;
    }

    public int unpass() {
        int had = plan.number;
        plan.clear();
        return had;
    }

    public int encode(int channels, boolean joint, int error) {
        if (channels < 1 || channels > 2 || error < 0 || error > MOST_ERROR || !isSound(channels)) {
            return NONE;
        }
        int frames = channels == 2 ? length / 2 : length;
        int flags = (channels == 2 ? FLAG_TWO : 0) | (error > 0 ? FLAG_ERROR : 0);
        if (channels == 2 && isTwin()) {
            flags |= FLAG_TWIN;
        } else if (channels == 2 && joint) {
            flags |= FLAG_JOINT;
        }
        spare.passes.plan.copy(plan);
        spare.begin(flags, commonShift(), frames, error);
        encoder.sheet.fold(spare, numbers);
        encoder.press(spare);
        keepSpare();
        return first.length;
    }

    public int size(int which) {
        Bytes stream = pressed(which);
        return stream == null ? NONE : stream.length;
    }

    public int out(int which, int i) {
        Bytes stream = pressed(which);
        return stream == null ? NONE : stream.at(i);
    }

    public int feed(int which, int a, int b, int c) {
        Bytes fed = fed(which);
        if (fed == null || fed.length + 12 > fed.held.length) {
            return NONE;
        }
        fed.addWord(a);
        fed.addWord(b);
        fed.addWord(c);
        return fed.length;
    }

    public boolean end(int which, int n) {
        Bytes fed = fed(which);
        return fed != null && fed.shorten(n);
    }

    public int take(int which) {
        Bytes fed = fed(which);
        Bytes stream = pressed(which);
        if (fed == null || stream == null || !fed.copy(stream)) {
            return NONE;
        }
        return fed.length;
    }

    public boolean harm(int which, int i, int b) {
        Bytes fed = fed(which);
        return fed != null && fed.turn(i, b);
    }

    public boolean seal(int which) {
        Bytes fed = fed(which);
        if (fed == null || fed.length <= CRC_BYTES) {
            return false;
        }
        fed.putWord(fed.length - CRC_BYTES, fed.crc(fed.length - CRC_BYTES));
        return true;
    }

    public int decode() {
        int fault = decoder.readFirst(spare);
        tape.shorten(0);
        return fault != 0 ? -fault : keepSound();
    }

    public int decodeBoth() {
        int fault = decoder.readFirst(spare);
        if (fault == 0) {
            fault = decoder.readSecond(spare);
        }
        tape.shorten(0);
        side.shorten(0);
        return fault != 0 ? -fault : keepSound();
    }

    public int look(int what) {
        return last.tell(what);
    }

    public int weight(int pass, int channel) {
        if (channel < 0 || channel >= last.coded || pass < 0 || pass >= last.passes.plan.number) {
            return 0;
        }
        return last.passes.weightOf(pass, channel);
    }

    public long median(int channel, int k) {
        if (channel < 0 || channel >= last.coded || k < 0 || k > 2) {
            return 0;
        }
        return last.medians.middleOf(channel, k);
    }

    public int count(int what) {
        switch (what) {
            case 0:
                return length;
            case 1:
                return plan.number;
            case 2:
                return tape.length;
            case 3:
                return side.length;
            default:
                return NONE;
        }
    }

    private Bytes fed(int which) {
        return which == 0 ? tape : which == 1 ? side : null;
    }

    private Bytes pressed(int which) {
        return which == 0 ? first : which == 1 ? second : null;
    }

    private boolean isSound(int channels) {
        int frames = channels == 2 ? length / 2 : length;
        if (frames < 1 || frames > MOST_FRAMES || frames * channels != length) {
            return false;
        }
        for (int i = 0; i < length && i < numbers.length; i++) {
            if (numbers[i] < LEAST_SAMPLE || numbers[i] > MOST_SAMPLE) {
                return false;
            }
        }
        return true;
    }

    private boolean isTwin() {
        for (int i = 0; i + 1 < length && i + 1 < numbers.length; i += 2) {
            if (numbers[i] != numbers[i + 1]) {
                return false;
            }
        }
        return true;
    }

    private int commonShift() {
        int all = 0;
        for (int i = 0; i < length && i < numbers.length; i++) {
            all |= numbers[i];
        }
        if (all == 0) {
            return 0;
        }
        int shift = 0;
        while (shift < MOST_SHIFT && ((all >> shift) & 1) == 0) {
            shift++;
        }
        return shift;
    }

    private int keepSound() {
        length = decoder.sheet.unfold(spare, numbers);
        keepSpare();
        return length;
    }

    // What is looked at must outlive a decoding that fails, so each one works on the spare.
    private void keepSpare() {
        Work done = spare;
        spare = last;
        last = done;
    }

    /** Bytes one after the other, up to a bound. */
    private static final class Bytes {
        final byte[] held;
        int length;

        Bytes(int most) {
            held = new byte[Math.max(0, most)];
            length = 0;
        }

        int at(int i) {
            return i >= 0 && i < length && i < held.length ? held[i] & 255 : NONE;
        }

        void add(int b) {
            if (length >= 0 && length < held.length) {
                held[length] = (byte) b;
                length++;
            }
        }

        void addWord(int word) {
            for (int shift = 24; shift >= 0; shift -= 8) {
                add(word >> shift);
            }
        }

        int wordAt(int i) {
            int word = 0;
            for (int k = 0; k < 4; k++) {
                word = (word << 8) | (at(i + k) & 255);
            }
            return word;
        }

        void putWord(int i, int word) {
            if (i < 0 || i + 4 > length || i + 4 > held.length) {
                return;
            }
            for (int k = 0; k < 4; k++) {
                held[i + k] = (byte) (word >> (24 - 8 * k));
            }
        }

        boolean turn(int i, int bits) {
            if (i < 0 || i >= length || i >= held.length) {
                return false;
            }
            held[i] = (byte) (held[i] ^ bits);
            return true;
        }

        boolean shorten(int n) {
            if (n < 0 || n > length) {
                return false;
            }
            length = n;
            return true;
        }

        boolean copy(Bytes from) {
            int n = from.length;
            if (n < 0 || n > held.length || n > from.held.length) {
                return false;
            }
            System.arraycopy(from.held, 0, held, 0, n);
            length = n;
            return true;
        }

        int crc(int n) {
            int crc = -1;
            for (int i = 0; i < n && i < length && i < held.length; i++) {
                crc ^= held[i] & 255;
                crc = (crc >>> 4) ^ CRC_STEPS[crc & 15];
                crc = (crc >>> 4) ^ CRC_STEPS[crc & 15];
            }
            return ~crc;
        }
    }

    /** Writes bits behind the bytes of a stream. */
    private static final class BitWriter {
        final Bytes stream;
        int open;
        int used;

        BitWriter(Bytes stream) {
            this.stream = stream;
            open = 0;
            used = 0;
        }

        void writeBits(long number, int n) {
            for (int i = n - 1; i >= 0; i--) {
                open = (open << 1) | (int) ((number >> i) & 1);
                used++;
                if (used == 8) {
                    stream.add(open);
                    open = 0;
                    used = 0;
                }
            }
        }

        /** Below 16 so many bits 1 and a 0; else sixteen 1s, behind which a G is due. */
        void writeOnes(long ones) {
            if (ones < 16) {
                writeBits((2L << (int) ones) - 2, (int) ones + 1);
            } else {
                writeBits(0xffff, 16);
            }
        }

        void writeG(long n) {
            int behind = highestBit(n);
            writeBits(behind, 5);
            writeBits(n, behind);
        }

        void writeT(long o, long n) {
            int k = highestBit(n);
            long x = (2L << k) - n;
            if (o < x) {
                writeBits(o, k);
            } else {
                writeBits(o + x, k + 1);
            }
        }

        void finish() {
            if (used > 0) {
                stream.add(open << (8 - used));
            }
            open = 0;
            used = 0;
        }
    }

    /** Reads bits of a stream, from one byte up to another; beyond them it answers 0 and notes it. */
    private static final class BitReader {
        final Bytes stream;
        int at;
        int to;
        boolean ended;

        BitReader(Bytes stream) {
            this.stream = stream;
            at = 0;
            to = 0;
            ended = false;
        }

        void start(int fromByte, int toByte) {
            at = fromByte * 8;
            to = toByte * 8;
            ended = false;
        }

        long readBits(int n) {
            long number = 0;
            for (int i = 0; i < n; i++) {
                int bit = 0;
                int inByte = at >> 3;
                if (at < to && inByte >= 0 && inByte < stream.held.length) {
                    bit = (stream.held[inByte] >> (7 - (at & 7))) & 1;
                    at++;
                } else {
                    ended = true;
                }
                number = (number << 1) | bit;
            }
            return number;
        }

        /** How many bits 1 come ahead of a 0; at sixteen it stops, and a G is due. */
        int readOnes() {
            int ones = 0;
            while (ones < 16 && readBits(1) == 1) {
                ones++;
            }
            return ones;
        }

        long readG() {
            int behind = (int) readBits(5);
            return (1L << behind) | readBits(behind);
        }

        long readT(long n) {
            int k = highestBit(n);
            long x = (2L << k) - n;
            long o = readBits(k);
            return o < x ? o : ((o << 1) | readBits(1)) - x;
        }

        boolean isRestWrong() {
            int left = to - at;
            return left > 7 || readBits(left) != 0;
        }
    }

    /** The place of the highest bit of a number from 1 on. */
    private static int highestBit(long n) {
        int place = 0;
        while (place < 62 && (n >> (place + 1)) > 0) {
            place++;
        }
        return place;
    }

    /** The TERMS and DELTAS of some PASSES. */
    private static final class Plan {
        final int[] terms;
        final int[] deltas;
        int number;

        Plan() {
            terms = new int[MOST_PASSES];
            deltas = new int[MOST_PASSES];
            number = 0;
        }

        boolean add(int term, int delta) {
            if (number < 0 || number >= MOST_PASSES || !isTerm(term) || delta < 1 || delta > 7) {
                return false;
            }
            terms[number] = term;
            deltas[number] = delta;
            number++;
            return true;
        }

        void clear() {
            number = 0;
        }

        void copy(Plan from) {
            for (int p = 0; p < MOST_PASSES; p++) {
                terms[p] = from.terms[p];
                deltas[p] = from.deltas[p];
            }
            number = from.number;
        }

        static boolean isTerm(int term) {
            return (term >= 1 && term <= 8) || term == 17 || term == 18 || term == -1 || term == -3;
        }
    }

    /** The PASSES at work, one number of one CHANNEL after the other. */
    private static final class Passes {
        final Plan plan;
        final int[] weights;
        final int[] inputs;
        final int[] bases;
        final int[] guesses;
        int coded;
        int frame;
        int channel;

        Passes() {
            plan = new Plan();
            weights = new int[MOST_PASSES * 2];
            inputs = new int[MOST_PASSES * 2 * 8];
            bases = new int[MOST_PASSES];
            guesses = new int[MOST_PASSES];
            coded = 0;
            frame = 0;
            channel = 0;
        }

        void begin(int codedChannels) {
            Arrays.fill(weights, 0);
            Arrays.fill(inputs, 0);
            coded = codedChannels;
        }

        /** All GUESSES together: no B hangs on the VALUE itself, so the REST is VALUE less this. */
        int foretell(int atFrame, int atChannel) {
            frame = atFrame;
            channel = atChannel;
            int all = 0;
            for (int p = 0; p < plan.number && p < MOST_PASSES; p++) {
                bases[p] = baseOf(p, plan.terms[p]);
                guesses[p] = (int) (((long) weightOf(p, channel) * bases[p] + 512) >> 10);
                all += guesses[p];
            }
            return all;
        }

        /** Takes the REST' of what was foretold: the VALUE'. */
        int learn(int rest) {
            int left = rest;
            for (int p = Math.min(plan.number, MOST_PASSES) - 1; p >= 0; p--) {
                if (bases[p] != 0 && left != 0) {
                    boolean alike = (bases[p] < 0) == (left < 0);
                    moveWeight(p, alike ? plan.deltas[p] : -plan.deltas[p]);
                }
                left += guesses[p];
                inputs[slot(p, channel, 0)] = left;
            }
            return left;
        }

        int weightOf(int p, int ofChannel) {
            return weights[track(p, ofChannel)];
        }

        private int baseOf(int p, int term) {
            if (term < 0 && coded < 2) {
                return 0;
            }
            if (term < 0) {
                int ago = term == -1 && channel == 1 ? 0 : 1;
                return inputs[slot(p, 1 - channel, ago)];
            }
            if (term <= 8) {
                return inputs[slot(p, channel, term)];
            }
            int a = inputs[slot(p, channel, 1)];
            int b = inputs[slot(p, channel, 2)];
            return term == 17 ? 2 * a - b : a + ((a - b) >> 1);
        }

        private void moveWeight(int p, int by) {
            int i = track(p, channel);
            weights[i] = Math.max(-1024, Math.min(1024, weights[i] + by));
        }

        // The masks keep an index inside its array, whatever comes.
        private int track(int p, int ofChannel) {
            return (p & 7) * 2 + (ofChannel & 1);
        }

        // The place of this FRAME still has the INPUT of eight FRAMES ago until it is learned.
        private int slot(int p, int ofChannel, int ago) {
            return (p & 7) * 16 + (ofChannel & 1) * 8 + ((frame - ago) & 7);
        }
    }

    /** The MEDIANS of both CHANNELS, and the bounds that they gave last. */
    private static final class Medians {
        final long[] middles;
        long low;
        long high;

        Medians() {
            middles = new long[6];
            low = 0;
            high = 0;
        }

        void begin() {
            Arrays.fill(middles, 0);
            low = 0;
            high = 0;
        }

        long middleOf(int channel, int k) {
            int i = (channel & 1) * 3 + k;
            return i >= 0 && i < middles.length ? middles[i] : 0;
        }

        boolean isQuiet(int coded) {
            return middleOf(0, 0) == 0 && (coded < 2 || middleOf(1, 0) == 0);
        }

        long onesOf(int channel, long v) {
            long first = share(channel, 0);
            long both = first + share(channel, 1);
            if (v < first) {
                return 0;
            }
            if (v < both) {
                return 1;
            }
            long each = share(channel, 2);
            return each > 0 ? 2 + (v - both) / each : 2;
        }

        /** Sets the bounds that ONES give, with the MEDIANS as they were, and moves these. */
        void bound(int channel, long ones) {
            long first = share(channel, 0);
            long both = first + share(channel, 1);
            long each = share(channel, 2);
            if (ones == 0) {
                low = 0;
                high = first - 1;
            } else if (ones == 1) {
                low = first;
                high = both - 1;
            } else {
                low = both + (ones - 2) * each;
                high = low + each - 1;
            }
            for (int k = 0; k < 3 && k <= ones; k++) {
                move(channel, k, ones > k);
            }
        }

        long mid() {
            return (low + high + 1) >> 1;
        }

        void halve(boolean upper) {
            if (upper) {
                low = mid();
            } else {
                high = mid() - 1;
            }
        }

        int near(boolean below) {
            int v = (int) Math.min(mid(), MOST);
            return below ? -1 - v : v;
        }

        private long share(int channel, int k) {
            return (middleOf(channel, k) >> 4) + 1;
        }

        // D is 2 to the 7 - k and no MEDIAN is below 0, so shifts divide.
        private void move(int channel, int k, boolean rises) {
            int i = (channel & 1) * 3 + k;
            if (i < 0 || i >= middles.length) {
                return;
            }
            long d = 128 >> k;
            if (rises) {
                middles[i] += ((middles[i] + d) >> (7 - k)) * 5;
            } else {
                middles[i] -= ((middles[i] + d - 2) >> (7 - k)) * 2;
            }
        }
    }

    /** One encoding or decoding: what its head says, what learns, and what may be looked at. */
    private static final class Work {
        final Passes passes;
        final Medians medians;
        int channels;
        int coded;
        int frames;
        int flags;
        int shift;
        int error;
        int silences;
        int passedOver;
        int mostOnes;
        int mostOff;

        Work() {
            passes = new Passes();
            medians = new Medians();
        }

        void begin(int itsFlags, int itsShift, int itsFrames, int itsError) {
            flags = itsFlags;
            shift = itsShift;
            frames = itsFrames;
            error = itsError;
            channels = (flags & FLAG_TWO) != 0 ? 2 : 1;
            coded = channels == 2 && (flags & FLAG_TWIN) == 0 ? 2 : 1;
            silences = 0;
            passedOver = 0;
            mostOnes = 0;
            mostOff = 0;
            passes.begin(coded);
            medians.begin();
        }

        boolean mayBeSilent() {
            return error == 0 && medians.isQuiet(coded);
        }

        void noteSilence(int n) {
            if (n > 0) {
                silences++;
                passedOver += n;
            }
        }

        void noteOnes(long ones) {
            mostOnes = (int) Math.max(mostOnes, Math.min(ones, MOST));
        }

        void noteOff(int off) {
            mostOff = Math.max(mostOff, Math.abs(off));
        }

        int tell(int what) {
            switch (what) {
                case 0:
                    return channels;
                case 1:
                    return frames;
                case 2:
                    return flags;
                case 3:
                    return shift;
                case 4:
                    return passes.plan.number;
                case 5:
                    return error;
                case 6:
                    return silences;
                case 7:
                    return passedOver;
                case 8:
                    return mostOnes;
                case 9:
                    return mostOff;
                default:
                    return NONE;
            }
        }
    }

    /** Room for the VALUES of one SOUND and what is known of their RESTS. */
    private static final class Sheet {
        final int[] values;
        final int[] rests;
        final long[] lows;
        final int[] spans;

        Sheet() {
            values = new int[MOST_NUMBERS];
            rests = new int[MOST_NUMBERS];
            lows = new long[MOST_NUMBERS];
            spans = new int[MOST_NUMBERS];
        }

        boolean has(int i) {
            return i >= 0 && i < MOST_NUMBERS;
        }

        int valueAt(int i) {
            return has(i) ? values[i] : 0;
        }

        int restAt(int i) {
            return has(i) ? rests[i] : 0;
        }

        void putRest(int i, int rest) {
            if (has(i)) {
                rests[i] = rest;
            }
        }

        /** Notes a REST' with its VALUE' and the bounds between which V lies. */
        void putRead(int i, int value, int rest, long low, long high) {
            if (has(i)) {
                values[i] = value;
                rests[i] = rest;
                lows[i] = low;
                spans[i] = (int) (high - low + 1);
            }
        }

        /** Makes VALUES of the SAMPLES. */
        void fold(Work work, int[] samples) {
            for (int frame = 0; frame < work.frames; frame++) {
                int from = frame * work.channels;
                int to = frame * work.coded;
                if (from + work.channels > samples.length || to + work.coded > values.length) {
                    return;
                }
                int left = samples[from] >> work.shift;
                values[to] = left;
                if (work.coded == 2) {
                    int right = samples[from + 1] >> work.shift;
                    boolean joint = (work.flags & FLAG_JOINT) != 0;
                    int apart = left - right;
                    values[to] = joint ? apart : left;
                    values[to + 1] = joint ? right + (apart >> 1) : right;
                }
            }
        }

        /** Makes SAMPLES of the VALUES: how many. */
        int unfold(Work work, int[] samples) {
            for (int frame = 0; frame < work.frames; frame++) {
                int from = frame * work.coded;
                int to = frame * work.channels;
                if (from + work.coded > values.length || to + work.channels > samples.length) {
                    return to;
                }
                int left = values[from];
                int right = work.coded == 2 ? values[from + 1] : left;
                if ((work.flags & FLAG_JOINT) != 0) {
                    right -= left >> 1;
                    left += right;
                }
                samples[to] = left << work.shift;
                if (work.channels == 2) {
                    samples[to + 1] = right << work.shift;
                }
            }
            return work.frames * work.channels;
        }
    }

    /** Writes both streams. */
    private static final class Encoder {
        final Bytes first;
        final Bytes second;
        final BitWriter firstBits;
        final BitWriter secondBits;
        final Sheet sheet;

        Encoder(Bytes first, Bytes second, Sheet sheet) {
            this.first = first;
            this.second = second;
            this.sheet = sheet;
            firstBits = new BitWriter(first);
            secondBits = new BitWriter(second);
        }

        void press(Work work) {
            writeHeads(work);
            if (work.error == 0) {
                foretellAll(work);
            }
            int still = 0;
            boolean behind = false;
            for (int frame = 0; frame < work.frames; frame++) {
                if (!behind && work.mayBeSilent()) {
                    still = stillFrames(work, frame);
                    firstBits.writeG(still + 1);
                    work.noteSilence(still);
                    behind = true;
                }
                if (still > 0) {
                    still--;
                } else {
                    writeFrame(work, frame);
                    behind = false;
                }
            }
            writeTails();
        }

        private void writeHeads(Work work) {
            first.shorten(0);
            first.add(FIRST_MARK);
            first.add(work.flags);
            first.add(work.shift);
            first.add(work.frames >> 8);
            first.add(work.frames);
            Plan plan = work.passes.plan;
            first.add(plan.number);
            for (int p = 0; p < plan.number && p < MOST_PASSES; p++) {
                first.add(plan.terms[p]);
                first.add(plan.deltas[p]);
            }
            if (work.error > 0) {
                first.add(work.error >> 8);
                first.add(work.error);
            }
            second.shorten(0);
            second.add(SECOND_MARK);
            // The first stream's CRC comes here when its bits are known.
            second.addWord(0);
        }

        private void writeTails() {
            firstBits.finish();
            secondBits.finish();
            int crc = first.crc(first.length);
            first.addWord(crc);
            second.putWord(1, crc);
            second.addWord(second.crc(second.length));
        }

        // Without an error the RESTS hang on no coding, and a SILENCE must know those to come.
        private void foretellAll(Work work) {
            for (int frame = 0; frame < work.frames; frame++) {
                for (int channel = 0; channel < work.coded; channel++) {
                    int i = frame * work.coded + channel;
                    int rest = sheet.valueAt(i) - work.passes.foretell(frame, channel);
                    work.passes.learn(rest);
                    sheet.putRest(i, rest);
                }
            }
        }

        private int stillFrames(Work work, int from) {
            int n = 0;
            while (from + n < work.frames && isStill(work, from + n)) {
                n++;
            }
            return n;
        }

        private boolean isStill(Work work, int frame) {
            for (int channel = 0; channel < work.coded; channel++) {
                if (sheet.restAt(frame * work.coded + channel) != 0) {
                    return false;
                }
            }
            return true;
        }

        private void writeFrame(Work work, int frame) {
            for (int channel = 0; channel < work.coded; channel++) {
                int i = frame * work.coded + channel;
                if (work.error == 0) {
                    writeRest(work, channel, sheet.restAt(i));
                } else {
                    int rest = sheet.valueAt(i) - work.passes.foretell(frame, channel);
                    int near = writeRest(work, channel, rest);
                    work.passes.learn(near);
                    work.noteOff(rest - near);
                }
            }
        }

        private int writeRest(Work work, int channel, int rest) {
            Medians medians = work.medians;
            boolean below = rest < 0;
            long v = below ? -1L - rest : rest;
            long ones = medians.onesOf(channel, v);
            work.noteOnes(ones);
            firstBits.writeOnes(ones);
            if (ones >= 16) {
                firstBits.writeG(ones - 15);
            }
            medians.bound(channel, ones);
            for (int i = 0; i < 64 && medians.high - medians.low > work.error; i++) {
                boolean upper = v >= medians.mid();
                firstBits.writeBits(upper ? 1 : 0, 1);
                medians.halve(upper);
            }
            firstBits.writeBits(below ? 1 : 0, 1);
            secondBits.writeT(v - medians.low, medians.high - medians.low + 1);
            return medians.near(below);
        }
    }

    /** Reads the TAPE, and the SIDE behind it; each reading answers a FAULT, or 0. */
    private static final class Decoder {
        final Bytes tape;
        final Bytes side;
        final BitReader tapeBits;
        final BitReader sideBits;
        final Sheet sheet;

        Decoder(Bytes tape, Bytes side, Sheet sheet) {
            this.tape = tape;
            this.side = side;
            this.sheet = sheet;
            tapeBits = new BitReader(tape);
            sideBits = new BitReader(side);
        }

        int readFirst(Work work) {
            int body = tape.length - CRC_BYTES;
            if (body < FIRST_HEAD) {
                return FAULT_SHORT;
            }
            if (tape.wordAt(body) != tape.crc(body)) {
                return FAULT_CRC;
            }
            if (!readHead(work, body)) {
                return FAULT_HEAD;
            }
            int fault = readBody(work);
            if (fault != 0) {
                return fault;
            }
            return tapeBits.isRestWrong() ? FAULT_REST : 0;
        }

        private boolean readHead(Work work, int to) {
            int flags = tape.at(1);
            int shift = tape.at(2);
            int frames = (tape.at(3) << 8) | tape.at(4);
            int passes = tape.at(5);
            if (tape.at(0) != FIRST_MARK || !areFlags(flags) || shift > MOST_SHIFT
                    || frames < 1 || frames > MOST_FRAMES || passes > MOST_PASSES) {
                return false;
            }
            boolean erring = (flags & FLAG_ERROR) != 0;
            int errorAt = FIRST_HEAD + 2 * passes;
            int bitsAt = errorAt + (erring ? 2 : 0);
            if (bitsAt > to || !readPlan(work.passes.plan, passes)) {
                return false;
            }
            int error = erring ? (tape.at(errorAt) << 8) | tape.at(errorAt + 1) : 0;
            work.begin(flags, shift, frames, error);
            tapeBits.start(bitsAt, to);
            return !erring || error > 0;
        }

        private static boolean areFlags(int flags) {
            boolean two = (flags & FLAG_TWO) != 0;
            boolean twin = (flags & FLAG_TWIN) != 0;
            boolean joint = (flags & FLAG_JOINT) != 0;
            return flags <= 15 && (two || (!twin && !joint)) && !(twin && joint);
        }

        private boolean readPlan(Plan plan, int passes) {
            plan.clear();
            for (int p = 0; p < passes; p++) {
                int term = tape.at(FIRST_HEAD + 2 * p);
                int delta = tape.at(FIRST_HEAD + 2 * p + 1);
                if (!plan.add(term > 127 ? term - 256 : term, delta)) {
                    return false;
                }
            }
            return true;
        }

        private int readBody(Work work) {
            long still = 0;
            boolean behind = false;
            for (int frame = 0; frame < work.frames; frame++) {
                if (!behind && work.mayBeSilent()) {
                    still = tapeBits.readG() - 1;
                    if (tapeBits.ended) {
                        return FAULT_END;
                    }
                    if (still > work.frames - frame) {
                        return FAULT_BIG;
                    }
                    work.noteSilence((int) still);
                    behind = true;
                }
                if (still > 0) {
                    still--;
                    passFrameOver(work, frame);
                } else {
                    int fault = readFrame(work, frame);
                    if (fault != 0) {
                        return fault;
                    }
                    behind = false;
                }
            }
            return 0;
        }

        private void passFrameOver(Work work, int frame) {
            for (int channel = 0; channel < work.coded; channel++) {
                work.passes.foretell(frame, channel);
                int value = work.passes.learn(0);
                sheet.putRead(frame * work.coded + channel, value, 0, 0, 0);
            }
        }

        private int readFrame(Work work, int frame) {
            Medians medians = work.medians;
            for (int channel = 0; channel < work.coded; channel++) {
                int fault = readBounds(work, channel);
                if (fault != 0) {
                    return fault;
                }
                boolean below = tapeBits.readBits(1) == 1;
                if (tapeBits.ended) {
                    return FAULT_END;
                }
                int rest = medians.near(below);
                work.passes.foretell(frame, channel);
                int value = work.passes.learn(rest);
                int i = frame * work.coded + channel;
                sheet.putRead(i, value, rest, medians.low, medians.high);
            }
            return 0;
        }

        private int readBounds(Work work, int channel) {
            Medians medians = work.medians;
            long ones = tapeBits.readOnes();
            if (ones == 16) {
                ones = tapeBits.readG() + 15;
            }
            if (tapeBits.ended) {
                return FAULT_END;
            }
            if (ones > MOST) {
                return FAULT_BIG;
            }
            medians.bound(channel, ones);
            if (medians.low > MOST) {
                return FAULT_BIG;
            }
            work.noteOnes(ones);
            for (int i = 0; i < 64 && medians.high - medians.low > work.error; i++) {
                medians.halve(tapeBits.readBits(1) == 1);
            }
            return tapeBits.ended ? FAULT_END : 0;
        }

        int readSecond(Work work) {
            int body = side.length - CRC_BYTES;
            if (body < SECOND_HEAD) {
                return FAULT_SIDE_SHORT;
            }
            if (side.wordAt(body) != side.crc(body)) {
                return FAULT_SIDE_CRC;
            }
            int firstCrc = tape.wordAt(tape.length - CRC_BYTES);
            if (side.at(0) != SECOND_MARK || side.wordAt(1) != firstCrc) {
                return FAULT_SIDE_HEAD;
            }
            sideBits.start(SECOND_HEAD, body);
            boolean big = putRight(work);
            if (sideBits.ended) {
                return FAULT_SIDE_END;
            }
            if (sideBits.isRestWrong()) {
                return FAULT_SIDE_REST;
            }
            return big ? FAULT_BOTH : 0;
        }

        // BOTH is told behind END and REST, so a V that is too big does not stop the reading.
        private boolean putRight(Work work) {
            boolean big = false;
            int n = work.frames * work.coded;
            for (int i = 0; i < n && i < MOST_NUMBERS; i++) {
                long v = sheet.lows[i] + sideBits.readT(sheet.spans[i]);
                if (v > MOST) {
                    big = true;
                } else {
                    int near = sheet.rests[i];
                    int rest = near < 0 ? -1 - (int) v : (int) v;
                    sheet.values[i] += rest - near;
                    work.noteOff(rest - near);
                }
            }
            return big;
        }
    }
}
