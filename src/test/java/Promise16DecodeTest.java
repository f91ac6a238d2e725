import java.util.List;

/** Promise 16: decode, and what it leaves as it was. */
public final class Promise16DecodeTest {
    public static void main(String[] args) {
        Due.run(Promise16DecodeTest.class);
    }

    /** A first stream with each FAULT, from 1 on. */
    static List<int[]> faulty() {
        int[] head = {83, 0, 0, 0, 1, 0};
        int[] wrong = Forge.stream(head, "0000001");
        wrong[9] ^= 4;
        return List.of(
            new int[9],
            wrong,
            Forge.stream(new int[] {84, 0, 0, 0, 1, 0}, "0000001"),
            Forge.stream(head, "00000111"),
            Forge.stream(head, "000011"),
            Forge.stream(head, "00000011"));
    }

    static void theRowBecomesTheSound() {
        Press x = Press.with(1, -2, 3, 400, 5, -60000);
        for (int channels = 1; channels <= 2; channels++) {
            x.encode(channels, true, 0);
            x.take(0);
            x.cut(0);
            Due.due("decode()", x.decode(), 6);
            x.isRow(1, -2, 3, 400, 5, -60000);
        }
    }

    static void ofOneFrame() {
        Press x = new Forge(0, 1, 0).frame(7).fed();
        Due.due("decode()", x.decode(), 1);
        x.isRow(7);
        x = new Forge(1, 1, 0).frame(7, -9).fed();
        Due.due("decode()", x.decode(), 2);
        x.isRow(7, -9);
    }

    static void ofSixHundredFrames() {
        int[] row = new int[1200];
        for (int i = 0; i < row.length; i++) {
            row[i] = i * i % 1009 - 500;
        }
        Press x = Press.with(row);
        x.pass(2, 3);
        x.encode(2, false, 0);
        x.take(0);
        x.cut(0);
        Due.due("decode()", x.decode(), 1200);
        x.isRow(row);
    }

    static void theTapeIsUsedUp() {
        Press x = new Forge(0, 1, 0).frame(7).fed();
        x.decode();
        Due.due("count(2)", x.count(2), 0);
        Due.due("decode() again", x.decode(), -1);
        x.isRow(7);
    }

    static void aFaultUsesTheTapeUp() {
        for (int fault = 1; fault <= 6; fault++) {
            Press x = Press.fresh();
            x.setFed(0, faulty().get(fault - 1));
            Due.due("decode()", x.decode(), -fault);
            Due.due("count(2)", x.count(2), 0);
            Due.no("end(0, 1)", x.end(0, 1));
            Due.due("feed", x.feed(0, 1, 2, 3), 12);
        }
    }

    static void theSideStays() {
        for (int fault = 0; fault <= 6; fault++) {
            Press x = Press.with(5);
            x.encode(1, false, 0);
            x.take(1);
            if (fault == 0) {
                x.take(0);
                Due.due("decode()", x.decode(), 1);
            } else {
                x.setFed(0, faulty().get(fault - 1));
                Due.due("decode()", x.decode(), -fault);
            }
            Due.due("count(3)", x.count(3), 9);
            x.take(0);
            Due.due("decodeBoth()", x.decodeBoth(), 1);
        }
    }

    static void theSideDoesNotCount() {
        Press x = Press.with(5);
        x.encode(1, false, 0);
        for (int n : new int[] {0, 3, 12, 24}) {
            x.take(0);
            x.setFed(1, new int[n]);
            Due.due("decode()", x.decode(), 1);
        }
    }

    static void aFaultLeavesAllButTheTape() {
        for (int fault = 1; fault <= 6; fault++) {
            Press x = Promise08EncodeTest.busy();
            Press y = x.again();
            y.setFed(0, faulty().get(fault - 1));
            Due.due("decode()", y.decode(), -fault);
            y.take(0);
            Due.same("all", y.allWithin(), x.allWithin());
        }
    }

    static void aFaultLateInTheStreamLeavesAllButTheTape() {
        // Much is read and learned ahead of the end, none of which may show.
        Press x = Promise08EncodeTest.busy();
        Press y = x.again();
        Forge forge = new Forge(5, 600, 3).shift(9).pass(18, 7).pass(1, 7).pass(-3, 1);
        for (int i = 0; i < 60; i++) {
            forge.frame(900 * i, -i);
        }
        y.setFed(0, forge.tape());
        Due.due("decode()", y.decode(), -4);
        y.take(0);
        Due.same("all", y.allWithin(), x.allWithin());
        Press z = new Forge(0, 3, 0).pass(2, 5).frame(9).frame(9).frame(-70).fed();
        z.decode();
        List<Long> behind = z.all();
        z.setFed(0, forge.tape());
        Due.due("decode()", z.decode(), -4);
        Due.same("all", z.all(), behind);
    }

    static void thePlanOfTheObjectDoesNotCountAndStays() {
        Press x = Press.with(100, 100, 90, 80, 70);
        x.pass(17, 5);
        x.encode(1, false, 0);
        x.take(0);
        x.unpass();
        x.pass(1, 1);
        x.pass(2, 2);
        x.cut(0);
        Due.due("decode()", x.decode(), 5);
        x.isRow(100, 100, 90, 80, 70);
        Due.due("count(1)", x.count(1), 2);
        Due.due("PASSES", x.look(4), 1);
        x.encode(1, false, 0);
        Due.due("PASSES", x.look(4), 2);
        Due.due("TERM", x.out(0, 8), 2);
    }

    static void theStreamsEncodedLastStay() {
        Press x = Press.with(-1);
        x.encode(1, false, 0);
        new Forge(1, 2, 7).frame(900, 3).frame(8, 8).feed(x);
        x.decode();
        Due.due("size(0)", x.size(0), 11);
        Due.due("out(0, 6)", x.out(0, 6), 2);
    }

    static void eachDecodingBeginsAnew() {
        Press x = Press.with(100, -100, 90, 80, 7000, 3);
        x.pass(17, 5);
        x.pass(-1, 7);
        x.encode(2, false, 0);
        Press y = x.again();
        x.take(0);
        x.decode();
        y.take(0);
        y.decode();
        y.end(0, 0);
        y.decode();
        y.take(0);
        y.decode();
        Due.same("all", y.all(), x.all());
    }

    static void withAnErrorItIsNear() {
        int[] row = new int[90];
        for (int i = 0; i < row.length; i++) {
            row[i] = i * 7919 % 4001 - 2000;
        }
        Press x = Press.with(row);
        for (int error : new int[] {1, 50, 65535}) {
            x.setRow(row);
            x.encode(1, false, error);
            int off = x.look(9);
            Due.yes("off", off > 0 && off <= error);
            x.take(0);
            Due.due("decode()", x.decode(), 90);
            int most = 0;
            for (int i = 0; i < row.length; i++) {
                most = Math.max(most, Math.abs(x.row(i) - row[i]));
            }
            Due.due("off by", most, off);
        }
    }
}
