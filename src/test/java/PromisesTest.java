import java.util.ArrayList;
import java.util.List;
import java.util.zip.CRC32;

/** Each promise of the document by hand: ordinary inputs, the edges that it names, wrong inputs. */
public final class PromisesTest {
    private static int wrong = 0;
    private static String promise = "";

    public static void main(String[] args) {
        newObject();
        say();
        cutAndRow();
        passAndUnpass();
        encodeRefuses();
        encodeHeads();
        encodeJoint();
        foretelling();
        silences();
        errors();
        sizeAndOut();
        feed();
        end();
        take();
        harmAndSeal();
        decodeFaults();
        decodeHeadFaults();
        decodeReadFaults();
        decodeKeeps();
        decodeBothFaults();
        decodeBothBig();
        weights();
        medians();
        look();
        count();
        System.out.println(wrong == 0 ? "all promises hold" : wrong + " answers are not as due");
        if (wrong != 0) {
            System.exit(1);
        }
    }

    private static void due(String call, long got, long want) {
        if (got != want) {
            wrong++;
            System.out.println("promise " + promise + ": " + call + " answered " + got + ", due is " + want);
        }
    }

    private static void holds(String call, boolean got, boolean want) {
        due(call, got ? 1 : 0, want ? 1 : 0);
    }

    private static void setRow(SoundPress x, int... samples) {
        x.cut(0);
        for (int i = 0; i < samples.length; i += 5) {
            int[] five = new int[5];
            System.arraycopy(samples, i, five, 0, Math.min(5, samples.length - i));
            x.say(five[0], five[1], five[2], five[3], five[4]);
        }
        x.cut(samples.length);
    }

    private static SoundPress withRow(int... samples) {
        SoundPress x = new SoundPress();
        setRow(x, samples);
        return x;
    }

    private static void isRow(SoundPress x, int... samples) {
        due("rows()", x.rows(), samples.length);
        for (int i = 0; i < samples.length; i++) {
            due("row(" + i + ")", x.row(i), samples[i]);
        }
    }

    /** Feeds whole streams: the bytes told and a right CRC behind them. */
    private static int feedStream(SoundPress x, int which, int... bytes) {
        x.end(which, 0);
        for (int i = 0; i < bytes.length + 4; i += 12) {
            int[] words = new int[3];
            for (int k = 0; k < 12; k++) {
                words[k / 4] = words[k / 4] << 8 | (i + k < bytes.length ? bytes[i + k] & 255 : 0);
            }
            x.feed(which, words[0], words[1], words[2]);
        }
        x.end(which, bytes.length + 4);
        x.seal(which);
        CRC32 crc = new CRC32();
        for (int b : bytes) {
            crc.update(b);
        }
        return (int) crc.getValue();
    }

    private static int[] bytes(int[] head, String bits) {
        List<Integer> all = new ArrayList<>();
        for (int b : head) {
            all.add(b);
        }
        String text = bits.replace(" ", "");
        text += "0".repeat((8 - text.length() % 8) % 8);
        for (int i = 0; i < text.length(); i += 8) {
            all.add(Integer.parseInt(text.substring(i, i + 8), 2));
        }
        return all.stream().mapToInt(b -> b).toArray();
    }

    private static int decodes(int[] head, String bits) {
        SoundPress x = new SoundPress();
        feedStream(x, 0, bytes(head, bits));
        return x.decode();
    }

    private static void newObject() {
        promise = "1";
        SoundPress x = new SoundPress();
        due("rows()", x.rows(), 0);
        for (int what = 0; what < 4; what++) {
            due("count", x.count(what), 0);
        }
        for (int what = 0; what < 10; what++) {
            due("look", x.look(what), 0);
        }
        due("size(0)", x.size(0), 0);
        due("size(1)", x.size(1), 0);
        due("out(0, 0)", x.out(0, 0), -1);
        due("weight", x.weight(0, 0), 0);
        due("median", x.median(0, 0), 0);
        due("encode", x.encode(1, false, 0), -1);
        due("unpass", x.unpass(), 0);
        due("decode", x.decode(), -1);
        due("decodeBoth", x.decodeBoth(), -1);
        due("rows()", x.rows(), 0);
    }

    private static void say() {
        promise = "2";
        SoundPress x = new SoundPress();
        for (int i = 5; i <= 1200; i += 5) {
            due("say", x.say(i, i + 1, i + 2, i + 3, Integer.MIN_VALUE), i);
        }
        due("say beyond", x.say(7, 7, 7, 7, 7), -1);
        due("rows", x.rows(), 1200);
        due("row", x.row(1199), Integer.MIN_VALUE);
        due("row", x.row(1195), 1200);
        due("row", x.row(1), 6);
        x.cut(1196);
        due("say beyond", x.say(7, 7, 7, 7, 7), -1);
        due("rows", x.rows(), 1196);
        x.cut(1195);
        due("say", x.say(7, 8, 9, 10, 11), 1200);
        due("row", x.row(1195), 7);
        due("row", x.row(1199), 11);
    }

    private static void cutAndRow() {
        promise = "3 to 5";
        SoundPress x = withRow(1, 2, 3, 4, 5);
        holds("cut(6)", x.cut(6), false);
        holds("cut(-1)", x.cut(-1), false);
        isRow(x, 1, 2, 3, 4, 5);
        holds("cut(5)", x.cut(5), true);
        isRow(x, 1, 2, 3, 4, 5);
        holds("cut(3)", x.cut(3), true);
        isRow(x, 1, 2, 3);
        due("row(3)", x.row(3), 0);
        due("row(-1)", x.row(-1), 0);
        due("row(min)", x.row(Integer.MIN_VALUE), 0);
        due("row(max)", x.row(Integer.MAX_VALUE), 0);
        holds("cut(0)", x.cut(0), true);
        holds("cut(0)", x.cut(0), true);
        holds("cut(1)", x.cut(1), false);
        due("rows()", x.rows(), 0);
        due("row(0)", x.row(0), 0);
    }

    private static void passAndUnpass() {
        promise = "6 and 7";
        SoundPress x = new SoundPress();
        for (int term = -5; term < 25; term++) {
            boolean is = term >= 1 && term <= 8 || term == 17 || term == 18 || term == -1 || term == -3;
            due("pass(" + term + ", 1)", x.pass(term, 1), is ? 1 : -1);
            due("count(1)", x.count(1), is ? 1 : 0);
            due("unpass()", x.unpass(), is ? 1 : 0);
        }
        for (int delta = -1; delta < 10; delta++) {
            boolean is = delta >= 1 && delta <= 7;
            due("pass(1, " + delta + ")", x.pass(1, delta), is ? 1 : -1);
            x.unpass();
        }
        due("pass(255, 1)", x.pass(255, 1), -1);
        due("pass(257, 1)", x.pass(257, 1), -1);
        for (int n = 1; n <= 8; n++) {
            due("pass", x.pass(18, 7), n);
        }
        due("pass the ninth", x.pass(18, 7), -1);
        due("count(1)", x.count(1), 8);
        due("unpass()", x.unpass(), 8);
        due("unpass()", x.unpass(), 0);
        due("pass", x.pass(-3, 2), 1);
    }

    private static void encodeRefuses() {
        promise = "8";
        SoundPress x = withRow(1, 2, 3);
        due("encode", x.encode(1, false, 0), 13);
        int crc = x.out(0, 12);
        due("encode odd", x.encode(2, false, 0), -1);
        due("encode 0 channels", x.encode(0, false, 0), -1);
        due("encode 3 channels", x.encode(3, false, 0), -1);
        due("encode error", x.encode(1, false, -1), -1);
        due("encode error", x.encode(1, false, 65536), -1);
        setRow(x, 8388608);
        due("encode big", x.encode(1, false, 0), -1);
        setRow(x, -8388609);
        due("encode big", x.encode(1, false, 0), -1);
        setRow(x);
        due("encode nothing", x.encode(1, false, 0), -1);
        due("encode nothing", x.encode(2, false, 0), -1);
        setRow(x, new int[601]);
        due("encode 601", x.encode(1, false, 0), -1);
        due("size stays", x.size(0), 13);
        due("out stays", x.out(0, 12), crc);
        due("look stays", x.look(1), 3);
        setRow(x, new int[600]);
        due("encode 600", x.encode(1, false, 0), 12);
        setRow(x, new int[1200]);
        due("encode 600 of two", x.encode(2, false, 0), 12);
        due("flags", x.out(0, 1), 3);
        due("encode 1200 of one", x.encode(1, false, 0), -1);
        setRow(x, -8388608, 8388607);
        due("encode edges", x.encode(1, false, 65535), 23);
        isRow(x, -8388608, 8388607);
    }

    private static void encodeHeads() {
        promise = "8, streams";
        SoundPress x = withRow(8, -24, 40, -24);
        x.pass(-1, 7);
        x.pass(-3, 1);
        x.pass(18, 2);
        x.encode(2, false, 258);
        int[] head = {83, 9, 3, 0, 2, 3, 255, 7, 253, 1, 18, 2, 1, 2};
        for (int i = 0; i < head.length; i++) {
            due("out(0, " + i + ")", x.out(0, i), head[i]);
        }
        for (int which = 0; which < 2; which++) {
            int n = x.size(which);
            CRC32 crc = new CRC32();
            for (int i = 0; i < n - 4; i++) {
                crc.update(x.out(which, i));
            }
            for (int i = 0; i < 4; i++) {
                due("crc " + which, x.out(which, n - 4 + i), crc.getValue() >> (24 - 8 * i) & 255);
            }
        }
        due("second mark", x.out(1, 0), 67);
        for (int i = 0; i < 4; i++) {
            due("first crc in second", x.out(1, 1 + i), x.out(0, x.size(0) - 4 + i));
        }
        setRow(x, new int[300]);
        x.encode(1, false, 0);
        due("frames high", x.out(0, 3), 1);
        due("frames low", x.out(0, 4), 44);
        due("shift of 0", x.out(0, 2), 0);
        int[][] shifts = {{1, 0}, {-1, 0}, {0, 6, 1}, {4, 8, 2}, {-8388608, 0, 23}, {4194304, -8388608, 22}, {-12, 2}};
        for (int[] row : shifts) {
            setRow(x, row[0], row[1]);
            x.encode(1, false, 0);
            due("shift of " + row[0] + " " + row[1], x.out(0, 2), row.length > 2 ? row[2] : row[0] == -12 ? 1 : 0);
        }
    }

    private static void encodeJoint() {
        promise = "8, joint and twin";
        SoundPress x = withRow(3, 3, -5, -5);
        x.encode(2, true, 0);
        due("twin", x.look(2), 3);
        due("twin codes one", x.median(1, 0), 0);
        x.encode(2, false, 5);
        due("twin with error", x.look(2), 11);
        x.encode(1, true, 0);
        due("joint of one", x.look(2), 0);
        int[] full = new int[1200];
        full[1199] = 4;
        setRow(x, full);
        x.encode(2, false, 0);
        due("no twin at the last frame", x.look(2), 1);
        full[1198] = 4;
        setRow(x, full);
        x.encode(2, false, 0);
        due("twin of a full row", x.look(2), 3);
        setRow(x, 3, 3, -5, -6);
        x.encode(2, false, 0);
        due("two", x.look(2), 1);
        // D = 0 and 1, R + (D >> 1) = 3 and -6.
        x.encode(2, true, 0);
        due("joint", x.look(2), 5);
        int[] bits = bytes(new int[0], "00000 00 1110 0   10 0 111110 1");
        for (int i = 0; i < bits.length; i++) {
            due("joint bits " + i, x.out(0, 6 + i), bits[i]);
        }
        x.take(0);
        x.cut(0);
        due("decode", x.decode(), 4);
        isRow(x, 3, 3, -5, -6);
    }

    private static void foretelling() {
        promise = "8, foretelling";
        int[] terms = {1, 2, 3, 4, 5, 6, 7, 8, 17, 18, -1, -3};
        for (int term : terms) {
            // Eight samples alike, then the ninth: each TERM sees its first B at another FRAME.
            int[] row = new int[9];
            java.util.Arrays.fill(row, 5);
            SoundPress x = withRow(row);
            x.pass(term, 7);
            x.encode(1, false, 0);
            int seen = term < 0 ? 0 : term > 8 ? 8 : 9 - term;
            due("weight of term " + term, x.weight(0, 0), 7L * seen);
        }
        // Two channels: 9 0, 4 4: only cross terms see the other channel.
        SoundPress x = withRow(9, 0, 4, 5);
        x.pass(-1, 3);
        x.encode(2, false, 0);
        due("-1 first", x.weight(0, 0), 0);
        due("-1 second", x.weight(0, 1), 3);
        setRow(x, 9, 2, 4, 5);
        x.encode(2, false, 0);
        due("-1 first", x.weight(0, 0), 3);
        due("-1 second", x.weight(0, 1), 6);
        x.unpass();
        x.pass(-3, 3);
        setRow(x, 9, 2, -4, 5);
        x.encode(2, false, 0);
        due("-3 first", x.weight(0, 0), -3);
        due("-3 second", x.weight(0, 1), 3);
    }

    private static void silences() {
        promise = "8, silence";
        // Behind the 3 M0 is 5, so no silence is asked for; it falls to 3, then to 1.
        SoundPress x = withRow(0, 0, 3, 0, 0);
        x.encode(1, false, 0);
        due("silences", x.look(6), 1);
        due("passed over", x.look(7), 2);
        int[] bits = bytes(new int[0], "00001 1  1110 0  00 00");
        for (int i = 0; i < bits.length; i++) {
            due("bits " + i, x.out(0, 6 + i), bits[i]);
        }
        due("median", x.median(0, 0), 1);
        // V of -1 is 0 and leaves M0 at 0: silence is asked for again and again.
        setRow(x, -1, -1, 0, -1);
        x.encode(1, false, 0);
        int[] again = bytes(new int[0], "00000 01  00000 01  00001 0 01");
        for (int i = 0; i < again.length; i++) {
            due("again " + i, x.out(0, 6 + i), again[i]);
        }
        due("silences", x.look(6), 1);
        x.take(0);
        x.cut(0);
        due("decode", x.decode(), 4);
        isRow(x, -1, -1, 0, -1);
        due("silences", x.look(6), 1);
        due("passed over", x.look(7), 1);
        // With an error none is asked for.
        setRow(x, 0, 0, 0);
        due("encode", x.encode(1, false, 1), 13);
        due("no silence", x.look(6), 0);
        due("bits", x.out(0, 8), 0);
    }

    private static void errors() {
        promise = "8, errors";
        int[] row = new int[300];
        for (int i = 0; i < row.length; i++) {
            row[i] = i * 7919 % 4001 - 2000;
        }
        SoundPress x = withRow(row);
        x.pass(17, 3);
        int exact = x.encode(1, false, 0);
        due("no difference", x.look(9), 0);
        int loose = x.encode(1, false, 50);
        holds("an error makes it shorter", loose < exact, true);
        holds("difference", x.look(9) > 0 && x.look(9) <= 26, true);
        int off = x.look(9);
        x.take(0);
        due("decode", x.decode(), 300);
        due("look(9) of decode", x.look(9), 0);
        int most = 0;
        for (int i = 0; i < row.length; i++) {
            most = Math.max(most, Math.abs(x.row(i) - row[i]));
        }
        due("told difference", most, off);
        x.take(0);
        x.take(1);
        due("decodeBoth", x.decodeBoth(), 300);
        isRow(x, row);
        due("look(9) of decodeBoth", x.look(9), off);
    }

    private static void sizeAndOut() {
        promise = "9 and 10";
        SoundPress x = withRow(-1);
        x.encode(1, false, 0);
        due("size(0)", x.size(0), 11);
        due("size(1)", x.size(1), 9);
        due("size(2)", x.size(2), -1);
        due("size(-1)", x.size(-1), -1);
        due("out(0, 10)", x.out(0, 10) & ~255, 0);
        due("out(0, 11)", x.out(0, 11), -1);
        due("out(1, 8)", x.out(1, 8) & ~255, 0);
        due("out(1, 9)", x.out(1, 9), -1);
        due("out(0, -1)", x.out(0, -1), -1);
        due("out(0, max)", x.out(0, Integer.MAX_VALUE), -1);
        due("out(0, min)", x.out(0, Integer.MIN_VALUE), -1);
        due("out(2, 0)", x.out(2, 0), -1);
        due("out(-1, 0)", x.out(-1, 0), -1);
        setRow(x, new int[600]);
        x.encode(1, false, 40000);
        int size = x.size(0);
        setRow(x, 1);
        x.encode(1, false, 0);
        holds("it was longer", size > 100, true);
        due("a shorter one", x.size(0), 11);
        due("nothing is left behind it", x.out(0, 11), -1);
    }

    private static void feed() {
        promise = "11";
        SoundPress x = new SoundPress();
        for (int which = 0; which < 2; which++) {
            for (int n = 12; n <= 6000; n += 12) {
                due("feed", x.feed(which, n, -n, Integer.MIN_VALUE), n);
            }
            due("feed beyond", x.feed(which, 1, 2, 3), -1);
            due("count", x.count(2 + which), 6000);
            x.end(which, 5989);
            due("feed beyond", x.feed(which, 1, 2, 3), -1);
            due("count", x.count(2 + which), 5989);
            x.end(which, 5988);
            due("feed", x.feed(which, 1, 2, 3), 6000);
            x.end(which, 0);
        }
        due("feed(2)", x.feed(2, 1, 2, 3), -1);
        due("feed(-1)", x.feed(-1, 1, 2, 3), -1);
        // 83 0 0 0 | 1 0 [G 1, 0, sign 1 = 2] crc: the highest byte of each number comes first.
        CRC32 crc = new CRC32();
        crc.update(new byte[] {83, 0, 0, 0, 1, 0, 2});
        int sum = (int) crc.getValue();
        x.feed(0, 83 << 24, 1 << 24 | 2 << 8 | sum >>> 24, sum << 8);
        x.end(0, 11);
        due("decode", x.decode(), 1);
        due("row(0)", x.row(0), -1);
    }

    private static void end() {
        promise = "12";
        SoundPress x = new SoundPress();
        for (int which = 0; which < 2; which++) {
            x.feed(which, 1, 2, 3);
            holds("end 13", x.end(which, 13), false);
            holds("end -1", x.end(which, -1), false);
            due("count", x.count(2 + which), 12);
            holds("end 12", x.end(which, 12), true);
            holds("end 7", x.end(which, 7), true);
            due("count", x.count(2 + which), 7);
            due("the other", x.count(3 - which), which == 0 ? 0 : 7);
        }
        holds("end(2, 0)", x.end(2, 0), false);
        holds("end(-1, 0)", x.end(-1, 0), false);
        holds("end(0, 0)", x.end(0, 0), true);
        holds("end(0, 0)", x.end(0, 0), true);
    }

    private static void take() {
        promise = "13";
        SoundPress x = new SoundPress();
        x.feed(0, 1, 2, 3);
        x.feed(1, 1, 2, 3);
        due("take(2)", x.take(2), -1);
        due("take(-1)", x.take(-1), -1);
        due("count", x.count(2), 12);
        due("take(0) ahead of any", x.take(0), 0);
        due("count", x.count(2), 0);
        due("count", x.count(3), 12);
        due("take(1) ahead of any", x.take(1), 0);
        due("count", x.count(3), 0);
        setRow(x, 1);
        x.encode(1, false, 0);
        x.feed(0, 1, 2, 3);
        due("take(0)", x.take(0), 11);
        due("take(0)", x.take(0), 11);
        due("count", x.count(2), 11);
        due("take(1)", x.take(1), 9);
        x.harm(0, 0, 255);
        due("the stream stays", x.out(0, 0), 83);
        due("take(0)", x.take(0), 11);
        due("decodeBoth", x.decodeBoth(), 1);
    }

    private static void harmAndSeal() {
        promise = "14 and 15";
        SoundPress x = withRow(1);
        x.encode(1, false, 0);
        x.take(0);
        holds("harm(0, 11)", x.harm(0, 11, 1), false);
        holds("harm(0, -1)", x.harm(0, -1, 1), false);
        holds("harm(1, 0)", x.harm(1, 0, 1), false);
        holds("harm(2, 0)", x.harm(2, 0, 1), false);
        holds("harm(0, 3)", x.harm(0, 3, 0x7fffff00), true);
        holds("harm(0, 6)", x.harm(0, 6, 0x155), true);
        holds("harm(0, 6)", x.harm(0, 6, -171), true);
        holds("harm(0, 10)", x.harm(0, 10, 0), true);
        due("decode", x.decode(), x.rows());
        x.take(0);
        x.harm(0, 6, 6);
        holds("seal(0)", x.seal(0), true);
        due("decode", x.decode(), 1);
        due("row(0)", x.row(0), -1);
        holds("seal(0) of nothing", x.seal(0), false);
        holds("seal(2)", x.seal(2), false);
        holds("seal(-1)", x.seal(-1), false);
        x.feed(1, 67 << 24, 1, 2);
        x.end(1, 4);
        holds("seal(1) of four", x.seal(1), false);
        due("count", x.count(3), 4);
        x.end(1, 0);
        x.feed(1, 67 << 24, 1, 2);
        x.end(1, 5);
        holds("seal(1) of five", x.seal(1), true);
        due("count", x.count(3), 5);
    }

    private static void decodeFaults() {
        promise = "16";
        SoundPress x = new SoundPress();
        due("nine bytes", fault(x, 9), -1);
        due("ten bytes", fault(x, 10), -2);
        SoundPress y = new SoundPress();
        feedStream(y, 0, 0, 0, 0, 0, 0);
        due("short counts first", y.decode(), -1);
        feedStream(y, 0, 83, 0, 0, 0, 1, 0);
        due("no bit at all", y.decode(), -4);
        due("used up", y.count(2), 0);
        due("used up", y.decode(), -1);
    }

    private static int fault(SoundPress x, int n) {
        x.feed(0, -1, 5, 7);
        x.end(0, n);
        return x.decode();
    }

    private static void decodeHeadFaults() {
        promise = "16, HEAD";
        String one = "00000 0 0";
        due("good", decodes(new int[] {83, 0, 0, 0, 1, 0}, one), 1);
        due("mark", decodes(new int[] {82, 0, 0, 0, 1, 0}, one), -3);
        for (int flags = 0; flags < 256; flags++) {
            boolean is = flags < 16 && (flags % 8 == 0 || flags % 8 == 1 || flags % 8 == 3 || flags % 8 == 5);
            int[] head = {83, flags, 0, 0, 1, 0};
            int[] erring = {83, flags, 0, 0, 1, 0, 0, 1};
            String bits = (flags & 8) != 0 ? "00" : one;
            bits += (flags & 3) == 1 ? "00" : "";
            int due = !is ? -3 : (flags & 1) + 1;
            due("flags " + flags, decodes((flags & 8) != 0 ? erring : head, bits), due);
        }
        due("shift 23", decodes(new int[] {83, 0, 23, 0, 1, 0}, one), 1);
        due("shift 24", decodes(new int[] {83, 0, 24, 0, 1, 0}, one), -3);
        due("frames 0", decodes(new int[] {83, 0, 0, 0, 0, 0}, one), -3);
        due("frames 600", decodes(new int[] {83, 0, 0, 2, 88, 0}, "01001 001011001"), 600);
        due("frames 601", decodes(new int[] {83, 0, 0, 2, 89, 0}, "01001 001011010"), -3);
        int[] terms = {0, 1, 8, 9, 16, 17, 18, 19, 252, 253, 254, 255, 128, 127};
        for (int term : terms) {
            boolean is = term == 1 || term == 8 || term == 17 || term == 18 || term == 253 || term == 255;
            due("term " + term, decodes(new int[] {83, 0, 0, 0, 1, 1, term, 7}, one), is ? 1 : -3);
        }
        due("delta 0", decodes(new int[] {83, 0, 0, 0, 1, 1, 1, 0}, one), -3);
        due("delta 8", decodes(new int[] {83, 0, 0, 0, 1, 1, 1, 8}, one), -3);
        int[] eight = {83, 0, 0, 0, 1, 8, 1, 1, 1, 1, 1, 1, 1, 1, 1, 1, 1, 1, 1, 1, 1, 1};
        due("eight passes", decodes(eight, one), 1);
        int[] nine = {83, 0, 0, 0, 1, 9, 1, 1, 1, 1, 1, 1, 1, 1, 1, 1, 1, 1, 1, 1, 1, 1, 1, 1};
        due("nine passes", decodes(nine, one), -3);
        due("passes beyond", decodes(new int[] {83, 0, 0, 0, 1, 1}, ""), -3);
        due("passes beyond", decodes(new int[] {83, 0, 0, 0, 1, 1, 1}, ""), -3);
        due("passes up to the end", decodes(new int[] {83, 0, 0, 0, 1, 1, 1, 1}, ""), -4);
        due("error 0", decodes(new int[] {83, 8, 0, 0, 1, 0, 0, 0}, "00"), -3);
        due("error beyond", decodes(new int[] {83, 8, 0, 0, 1, 0, 1}, ""), -3);
        due("error up to the end", decodes(new int[] {83, 8, 0, 0, 1, 0, 0, 1}, ""), -4);
    }

    private static void decodeReadFaults() {
        promise = "16, END, BIG, REST";
        int[] one = {83, 0, 0, 0, 1, 0};
        int[] two = {83, 0, 0, 0, 2, 0};
        due("end in a G", decodes(one, "11111 000"), -4);
        due("end in ones", decodes(one, "00000 111"), -4);
        due("silence beyond", decodes(one, "00001 1"), -5);
        due("silence to the end", decodes(one, "00001 0"), 1);
        due("silence far beyond", decodes(one, "11111 " + "1".repeat(31)), -5);
        String sixteen = "00000 " + "1".repeat(16);
        // ONES 2147483647 is G of 2147483632; LOW is then 2 + 2147483645.
        String most = "11110 " + Integer.toBinaryString(2147483632).substring(1);
        due("the greatest ones", decodes(one, sixteen + most + "0"), 1);
        due("ones beyond", decodes(one, sixteen + "11111 " + "0".repeat(31)), -5);
        due("ones end", decodes(one, sixteen + "11111 " + "0".repeat(28)), -4);
        due("two left", decodes(one, "00001 0"), 1);
        due("one of them 1", decodes(one, "00001 0  01"), -6);
        due("seven left", decodes(one, "00000 11 0 0"), 1);
        due("eight left", decodes(one, "00000 00 0 00000000"), -6);
        due("eight left", decodes(one, "00000 1 0 0 00000000"), -6);
        due("none left", decodes(one, "00000 1 0 0"), 1);
        due("two frames", decodes(two, "00000 1 0 0 0 1"), 2);
        due("end of the second frame", decodes(two, "00000 1 0 0"), -4);
        SoundPress x = new SoundPress();
        feedStream(x, 0, bytes(one, sixteen + most + "1"));
        due("decode", x.decode(), 1);
        due("row(0)", x.row(0), Integer.MIN_VALUE);
        due("ones", x.look(8), Integer.MAX_VALUE);
        due("encode refuses what is no sample", x.encode(1, false, 0), -1);
    }

    private static void decodeKeeps() {
        promise = "16 and 18, what stays";
        SoundPress x = withRow(5, 5, 9);
        x.pass(1, 7);
        x.encode(1, false, 0);
        long median = x.median(0, 0);
        int weight = x.weight(0, 0);
        feedStream(x, 0, bytes(new int[] {83, 1, 3, 0, 9, 1, 2, 2}, "00000 111110 0 1111110 0"));
        x.feed(1, 1, 2, 3);
        due("decode", x.decode(), -4);
        isRow(x, 5, 5, 9);
        due("look", x.look(0), 1);
        due("look", x.look(1), 3);
        due("look", x.look(3), 0);
        due("median", x.median(0, 0), median);
        due("weight", x.weight(0, 0), weight);
        due("the side stays", x.count(3), 12);
        due("the plan stays", x.count(1), 1);
        due("the stream stays", x.take(0), x.size(0));
        x.unpass();
        due("decodeBoth", x.decodeBoth(), -8);
        due("used up", x.count(2) + x.count(3), 0);
        isRow(x, 5, 5, 9);
        x.take(0);
        x.pass(17, 1);
        x.pass(17, 1);
        x.cut(0);
        due("decode", x.decode(), 3);
        isRow(x, 5, 5, 9);
        due("the plan stays", x.count(1), 2);
        due("look(4)", x.look(4), 1);
    }

    private static void decodeBothFaults() {
        promise = "17";
        SoundPress x = withRow(20, 1, 300, 299, 301, -300, 311, 290, 307, 2);
        x.encode(1, false, 3);
        int size = x.size(1);
        holds("there are bits", size > 9, true);
        int[][] faults = {{0, 8, 7}, {1, 9, 8}, {2, 9, 9}, {3, size - 1, 10}, {4, size, 9}, {5, size, 11}};
        for (int[] f : faults) {
            x.take(0);
            x.take(1);
            x.end(1, Math.min(f[1], size));
            if (f[0] >= 2) {
                x.harm(1, f[0] == 2 ? 0 : f[0] == 4 ? 4 : size, 1);
            }
            if (f[0] == 5) {
                x.feed(1, 0, 0, 0);
                x.end(1, size + 1);
            }
            if (f[0] >= 2) {
                x.seal(1);
            }
            due("fault of the second", x.decodeBoth(), -f[2]);
            due("used up", x.count(2) + x.count(3), 0);
            due("row stays", x.row(0), 20);
        }
        x.take(0);
        x.take(1);
        x.harm(0, 0, 1);
        x.end(1, 1);
        due("the first one counts first", x.decodeBoth(), -2);
        due("used up", x.count(2) + x.count(3), 0);
        x.take(0);
        x.take(1);
        due("decodeBoth", x.decodeBoth(), 10);
        isRow(x, 20, 1, 300, 299, 301, -300, 311, 290, 307, 2);
    }

    private static void decodeBothBig() {
        promise = "17, BOTH";
        // E 1. Rests of ONES 3 make A2 2, those of ONES 0 put A0 back to 1; then LOW can be the top.
        int[] head = {83, 8, 0, 0, 8, 0, 0, 1};
        Mirror.Medians m = new Mirror.Medians();
        StringBuilder bits = new StringBuilder();
        StringBuilder second = new StringBuilder();
        for (int ones : new int[] {3, 3, 3, 3, 0, 0, 0}) {
            bits.append(Mirror.ones(ones)).append("0");
            long[] b = m.bounds(ones);
            second.append(Mirror.t(0, b[1] - b[0] + 1));
        }
        due("A0, A1, A2", m.a(0) * 100 + m.a(1) * 10 + m.a(2), 122);
        bits.append(Mirror.ones(2 + (2147483647L - 3) / 2)).append("0");
        int[] tape = bytes(head, bits.toString());
        SoundPress x = new SoundPress();
        int crc = feedStream(x, 0, tape);
        int[] mark = {67, crc >>> 24, crc >>> 16 & 255, crc >>> 8 & 255, crc & 255};
        feedStream(x, 1, bytes(mark, second + "1"));
        due("V is one above", x.decodeBoth(), -12);
        due("rows", x.rows(), 0);
        feedStream(x, 0, tape);
        feedStream(x, 1, bytes(mark, second + "1 00000000"));
        due("REST is told ahead of BOTH", x.decodeBoth(), -11);
        feedStream(x, 0, tape);
        feedStream(x, 1, bytes(mark, second + "0"));
        due("V is the top", x.decodeBoth(), 8);
        due("row", x.row(7), 2147483647);
        feedStream(x, 0, tape);
        due("decode has it at most", x.decode(), 8);
        due("row", x.row(7), 2147483647);
    }

    private static void weights() {
        promise = "19";
        int[] ramp = new int[600];
        int[] swing = new int[600];
        for (int i = 0; i < 600; i++) {
            ramp[i] = 1000 * (i + 1);
            swing[i] = i % 2 == 0 ? ramp[i] : -ramp[i];
        }
        SoundPress x = withRow(ramp);
        x.pass(1, 7);
        x.encode(1, false, 0);
        due("weight at most", x.weight(0, 0), 1024);
        setRow(x, swing);
        x.encode(1, false, 0);
        due("weight at least", x.weight(0, 0), -1024);
        due("no such channel", x.weight(0, 1), 0);
        due("no such channel", x.weight(0, -1), 0);
        due("no such channel", x.weight(0, 2), 0);
        due("no such pass", x.weight(1, 0), 0);
        due("no such pass", x.weight(-1, 0), 0);
        due("no such pass", x.weight(Integer.MAX_VALUE, 0), 0);
        x.unpass();
        due("the plan is another", x.weight(0, 0), -1024);
        setRow(x, 1, 2, 3);
        x.encode(1, false, 0);
        due("none", x.weight(0, 0), 0);
        // A 0 on either side leaves the weight as it is.
        setRow(x, 0, 5, 0, 5);
        x.pass(1, 7);
        x.encode(1, false, 0);
        due("0 and a number", x.weight(0, 0), 0);
    }

    private static void medians() {
        promise = "20";
        SoundPress x = withRow(3, 3, 3, 3);
        x.encode(2, false, 0);
        due("twin", x.median(0, 0), 10);
        due("twin has one", x.median(1, 0), 0);
        setRow(x, 3, 0);
        x.encode(2, false, 0);
        for (int k = 0; k < 3; k++) {
            due("median", x.median(0, k), 5);
            due("median", x.median(1, k), 0);
        }
        setRow(x, 0, 3);
        x.encode(2, false, 0);
        for (int k = 0; k < 3; k++) {
            due("median", x.median(0, k), 0);
            due("median", x.median(1, k), 5);
        }
        due("k -1", x.median(1, -1), 0);
        due("k 3", x.median(0, 3), 0);
        due("channel 2", x.median(2, 0), 0);
        due("channel -1", x.median(-1, 0), 0);
        // The second one has ONES 2, so M2 falls from 5.
        setRow(x, 3, 2);
        x.encode(1, false, 0);
        due("M0", x.median(0, 0), 10);
        due("M1", x.median(0, 1), 10);
        due("M2", x.median(0, 2), 3);
    }

    private static void look() {
        promise = "18";
        SoundPress x = withRow(0, 0, 0, 0, 8, 4, -4, 12);
        x.pass(17, 2);
        x.pass(2, 3);
        x.encode(2, true, 0);
        int[] due = {2, 4, 5, 2, 2, 0, 1, 2};
        for (int what = 0; what < due.length; what++) {
            due("look(" + what + ")", x.look(what), due[what]);
        }
        due("look(9)", x.look(9), 0);
        due("look(10)", x.look(10), -1);
        due("look(-1)", x.look(-1), -1);
        x.encode(2, false, 77);
        due("look(5)", x.look(5), 77);
        due("look(2)", x.look(2), 9);
        due("look(6)", x.look(6), 0);
        x.encode(5, false, 77);
        due("look(0)", x.look(0), 2);
        setRow(x, 0, 0);
        x.encode(2, true, 0);
        due("look(8) of silence", x.look(8), 0);
    }

    private static void count() {
        promise = "21";
        SoundPress x = withRow(1, 2, 3);
        x.pass(1, 1);
        x.feed(0, 1, 2, 3);
        x.feed(1, 1, 2, 3);
        x.feed(1, 1, 2, 3);
        due("count(0)", x.count(0), 3);
        due("count(1)", x.count(1), 1);
        due("count(2)", x.count(2), 12);
        due("count(3)", x.count(3), 24);
        due("count(4)", x.count(4), -1);
        due("count(-1)", x.count(-1), -1);
    }
}
