/** Promises 8 to 12: frames, fault, frame, data, range. */
public final class FramesTest {
    private static final Due due = new Due("FramesTest");
    private static final int CUT = 1;
    private static final int KIND = 2;
    private static final int VALUE = 3;
    private static final int LEVEL = 4;

    public static void main(String[] args) {
        plainKinds();
        padding();
        stream();
        crypto();
        token();
        newName();
        streamCounts();
        words();
        closes();
        ack();
        ackWrong();
        kinds();
        levels();
        everyCut();
        arguments();
        faultOfTheLast();
        accessors();
        afterMoreBytes();
        manyFrames();
        due.end();
    }

    /** One frame that is right: a, b, c, d, kind, bytes, ranges, begin, end, counts. */
    private static WireCodec one(String hex, long... parts) {
        WireCodec x = Due.tape(hex);
        due.is(hex + " frames", x.frames(0, 2), 1);
        due.is(hex + " fault", x.fault(false), 0);
        due.is(hex + " place", x.fault(true), -1);
        for (int k = 0; k < 12; k++) {
            long want = k < parts.length ? parts[k] : k == 8 ? x.size() : 0;
            due.is(hex + " frame(0, " + k + ")", x.frame(0, k), want);
        }
        return x;
    }

    private static void wrong(String hex, int level, int fault) {
        WireCodec x = Due.tape("01" + hex);
        due.is(hex + " frames", x.frames(0, level), 1);
        due.is(hex + " fault", x.fault(false), fault);
        due.is(hex + " place", x.fault(true), 1);
        due.fails(hex + " frame(1, 4)", Due.NO_SUCH, () -> x.frame(1, 4));
    }

    private static void plainKinds() {
        one("01", 0, 0, 0, 0, 1);
        one("1e", 0, 0, 0, 0, 30);
        one("04 01 4102 80000003", 1, 258, 3, 0, 4);
        one("05 07 08", 7, 8, 0, 0, 5);
        one("10 ffffffffffffffff", Due.GREATEST, 0, 0, 0, 16);
        one("11 07 08", 7, 8, 0, 0, 17);
        one("14 07", 7, 0, 0, 0, 20);
        one("15 07 08", 7, 8, 0, 0, 21);
        one("19 07", 7, 0, 0, 0, 25);
    }

    private static void padding() {
        one("00", 1);
        one("00000000", 4);
        WireCodec x = Due.tape("0000 01 00 01 000000");
        due.is("frames", x.frames(0, 0), 5);
        due.is("a of the first", x.frame(0, 0), 2);
        due.is("a of the second", x.frame(2, 0), 1);
        due.is("begin", x.frame(2, 7), 3);
        due.is("end", x.frame(2, 8), 4);
        due.is("a of the last", x.frame(4, 0), 3);
        due.is("from within", x.frames(1, 0), 5);
        due.is("a of the rest", x.frame(0, 0), 1);
    }

    private static void stream() {
        one("08 05 aabb", 5, 0, 0, 0, 8, 2);
        one("09 05", 5, 0, 1, 0, 8, 0);
        one("0a 05 02 aabb", 5, 0, 0, 1, 8, 2);
        one("0b 05 00", 5, 0, 1, 1, 8, 0);
        one("0c 05 09 aabbcc", 5, 9, 0, 0, 8, 3);
        one("0d 05 4009 aa", 5, 9, 1, 0, 8, 1);
        one("0e 05 09 01 aa", 5, 9, 0, 1, 8, 1);
        WireCodec x = one("0f 05 09 03 aabbcc", 5, 9, 1, 1, 8, 3);
        due.is("data 0", x.data(0, 0, false), 0xaa);
        due.is("data 2", x.data(0, 2, false), 0xcc);
        due.fails("data 3", Due.NO_SUCH, () -> x.data(0, 3, false));
        due.fails("data -1", Due.NO_SUCH, () -> x.data(0, -1, false));
        due.fails("secret", Due.NO_SUCH, () -> x.data(0, 0, true));
        wrong("0a 05 03 aabb", 2, CUT);
        wrong("0a 05 ffffffffffffffff aabb", 2, CUT);
        one("0c 05 fffffffffffffffe aa", 5, Due.GREATEST - 1, 0, 0, 8, 1);
        wrong("0c 05 fffffffffffffffe aabb", 2, VALUE);
        wrong("0e 05 ffffffffffffffff 01 aa", 2, VALUE);
        wrong("0e 05 ffffffffffffffff 02 aa", 2, CUT);
        one("0e 05 ffffffffffffffff 00", 5, Due.GREATEST, 0, 1, 8, 0);
        WireCodec y = Due.tape("0a 05 01 aa 01 08 07 0101");
        due.is("a stream with a length, one without", y.frames(0, 2), 3);
        due.is("data takes all", y.frame(2, 5), 2);
    }

    private static void crypto() {
        WireCodec x = one("06 09 02 aabb", 0, 9, 0, 0, 6, 2);
        due.is("data 1", x.data(0, 1, false), 0xbb);
        one("06 ffffffffffffffff 00", 0, Due.GREATEST, 0, 0, 6, 0);
        one("06 fffffffffffffffe 01 aa", 0, Due.GREATEST - 1, 0, 0, 6, 1);
        wrong("06 ffffffffffffffff 01 aa", 0, VALUE);
        wrong("06 ffffffffffffffff 01", 0, CUT);
        wrong("06 00 03 aabb", 1, CUT);
    }

    private static void token() {
        WireCodec x = one("07 01 aa", 0, 0, 0, 0, 7, 1);
        due.is("data 0", x.data(0, 0, false), 0xaa);
        wrong("07 00", 2, VALUE);
        wrong("07", 2, CUT);
        wrong("07 02 aa", 2, CUT);
    }

    private static void newName() {
        String secret = "000102030405060708090a0b0c0d0e0f";
        WireCodec x = one("18 05 05 02 aabb" + secret, 5, 5, 0, 0, 24, 2);
        due.is("data 1", x.data(0, 1, false), 0xbb);
        due.fails("data 2", Due.NO_SUCH, () -> x.data(0, 2, false));
        due.is("secret 0", x.data(0, 0, true), 0);
        due.is("secret 15", x.data(0, 15, true), 15);
        due.fails("secret 16", Due.NO_SUCH, () -> x.data(0, 16, true));
        due.fails("secret -1", Due.NO_SUCH, () -> x.data(0, -1, true));
        one("18 05 00 14" + Due.bytes(20) + secret, 5, 0, 0, 0, 24, 20);
        one("18 05 00 01 aa" + secret, 5, 0, 0, 0, 24, 1);
        wrong("18 05 06 01 aa" + secret, 2, VALUE);
        wrong("18 05 05 00" + secret, 2, VALUE);
        wrong("18 05 05 15" + Due.bytes(21) + secret, 2, VALUE);
        wrong("18 05 05 ff" + Due.bytes(255) + secret, 2, VALUE);
        wrong("18 05 05 15" + Due.bytes(36), 2, CUT);
        wrong("18 05 06 01 aa" + Due.bytes(15), 2, CUT);
        wrong("18 05 05 00" + Due.bytes(15), 2, CUT);
    }

    private static void streamCounts() {
        int[] kinds = {18, 19, 22, 23};
        for (int kind : kinds) {
            String first = String.format("%02x", kind);
            one(first + "d000000000000000", Due.MOST_STREAMS, 0, 0, 0, kind);
            wrong(first + "d000000000000001", 2, VALUE);
            wrong(first + "d0000000000000", 2, CUT);
        }
    }

    private static void words() {
        one("1a ffffffffffffffff", -1, 0, 0, 0, 26);
        one("1b 8000000000000001", Long.MIN_VALUE + 1, 0, 0, 0, 27);
        wrong("1a 00000000000000", 2, CUT);
        wrong("1b 00000000000000", 2, CUT);
    }

    private static void closes() {
        WireCodec x = one("1c 4123 ffffffffffffffff 02 aabb", 0x123, Due.GREATEST, 0, 0, 28, 2);
        due.is("data 0", x.data(0, 0, false), 0xaa);
        one("1c 01 02 00", 1, 2, 0, 0, 28);
        one("1d 01 03 aabbcc", 1, 0, 0, 0, 29, 3);
        wrong("1d 01 03 aabb", 2, CUT);
        wrong("1c 01 03", 1, CUT);
    }

    private static void ack() {
        WireCodec x = one("02 4064 0c 02 05 00 03 08 00", 100, 12, 0, 0, 2, 0, 3);
        long[] ends = {95, 100, 90, 93, 80, 80};
        range(x, 0, ends);
        one("02 00 00 00 00", 0, 0, 0, 0, 2, 0, 1);
        WireCodec y = one("03 0a 01 01 02 03 03 4007 80000008 09", 10, 1, 0, 0, 3, 0, 2, 0, 14, 7, 8, 9);
        range(y, 0, 8, 10, 0, 3);
        WireCodec z = one("02 ffffffffffffffff 00 00 ffffffffffffffff", Due.GREATEST, 0, 0, 0, 2, 0, 1);
        range(z, 0, 0, Due.GREATEST);
        WireCodec two = Due.tape("02 05 00 00 00 01 03 09 00 01 00 00 00 01 02 03");
        due.is("frames", two.frames(0, 0), 3);
        range(two, 0, 5, 5);
        range(two, 2, 9, 9, 7, 7);
        due.is("counts", two.frame(2, 9), 1);
        due.is("counts", two.frame(2, 10), 2);
        due.is("counts", two.frame(2, 11), 3);
        due.is("counts of 2", two.frame(0, 9), 0);
        due.fails("a ping has no range", Due.NO_SUCH, () -> two.range(1, 0, true));
        due.fails("no data", Due.NO_SUCH, () -> two.data(0, 0, false));
    }

    private static void range(WireCodec x, int i, long... ends) {
        int count = ends.length / 2;
        due.is("ranges", x.frame(i, 6), count);
        for (int k = 0; k < count; k++) {
            due.is("least " + k, x.range(i, k, false), ends[2 * k]);
            due.is("greatest " + k, x.range(i, k, true), ends[2 * k + 1]);
        }
        due.fails("range " + count, Due.NO_SUCH, () -> x.range(i, count, true));
        due.fails("range -1", Due.NO_SUCH, () -> x.range(i, -1, false));
        due.fails("no such frame", Due.NO_SUCH, () -> x.range(-1, 0, false));
    }

    private static void ackWrong() {
        wrong("02 05 00 00 06", 0, VALUE);
        one("02 05 00 00 05", 5, 0, 0, 0, 2, 0, 1);
        one("02 05 00 01 01 02 00", 5, 0, 0, 0, 2, 0, 2);
        wrong("02 05 00 01 01 03 00", 0, VALUE);
        wrong("02 05 00 01 01 02 01", 0, VALUE);
        wrong("02 05 00 01 05 00 00", 0, VALUE);
        wrong("02 05 00 02 01 02 00 00 00", 0, VALUE);
        wrong("02 05 00 02 01 ffffffffffffffff ffffffffffffffff ffffffffffffffff 00", 0, VALUE);
        wrong("02 05 00 01 06 00", 0, CUT);
        wrong("02 05 00 ffffffffffffffff 00 00 00", 0, CUT);
        wrong("02 05 00 02 00 00 00 00", 0, CUT);
        wrong("02 05 00 01 00 00", 0, CUT);
        wrong("03 05 00 00 06 00 00 00", 1, VALUE);
        wrong("03 05 00 00 06 00 00", 1, CUT);
        wrong("03 05 00 00 05 00 00", 1, CUT);
        WireCodec x = Due.tape("02 05 00 00 06 01");
        due.is("a wrong one", x.frames(0, 0), 0);
        due.is("the ping behind it", x.frames(5, 0), 1);
        due.is("fault", x.fault(false), 0);
    }

    private static void kinds() {
        for (int first = 31; first < 256; first++) {
            wrong(String.format("%02x", first), first % 3, KIND);
        }
    }

    private static void levels() {
        String[] right = {
            "00", "01", "02 00000000", "03 00000000 000000", "04 000000", "05 0000", "06 0000", "07 01aa",
            "08 00", "09 00", "0a 0000", "0b 0000", "0c 0000", "0d 0000", "0e 000000", "0f 000000",
            "10 00", "11 0000", "12 00", "13 00", "14 00", "15 0000", "16 00", "17 00",
            "18 0000 01 aa" + Due.bytes(16), "19 00", "1a" + Due.bytes(8), "1b" + Due.bytes(8),
            "1c 000000", "1d 0000", "1e"
        };
        for (int first = 0; first <= 30; first++) {
            boolean early = first < 4 || first == 6 || first == 28;
            due.is("at the last level " + first, Due.tape(right[first]).frames(0, 2), 1);
            for (int level = 0; level < 2; level++) {
                if (early) {
                    due.is("early " + first, Due.tape(right[first]).frames(0, level), 1);
                } else {
                    wrong(right[first], level, LEVEL);
                    wrong(right[first].substring(0, 2), level, LEVEL);
                }
            }
        }
    }

    private static void everyCut() {
        String[] whole = {
            "02 4064 400c 4002 4005 4000 4003 4009 4000", "03 05 00 00 05 4001 4002 4003", "04 4001 4102 80000003",
            "05 4007 4008", "06 4009 4002 aabb", "07 4002 aabb", "0a 4005 4002 aabb", "0f 4005 4009 4003 aabbcc",
            "10 4007", "11 4007 4008", "12 4007", "13 4007", "14 4007", "15 4007 4008", "16 4007", "17 4007",
            "18 4005 4005 02 aabb" + Due.bytes(16), "19 4007", "1a" + Due.bytes(8), "1b" + Due.bytes(8),
            "1c 4001 4002 4002 aabb", "1d 4001 4002 aabb"
        };
        for (String hex : whole) {
            String digits = hex.replace(" ", "");
            due.is(hex, Due.tape(digits).frames(0, 2), 1);
            for (int end = 2; end < digits.length(); end += 2) {
                wrong(digits.substring(0, end), 2, CUT);
            }
        }
    }

    private static void arguments() {
        WireCodec x = Due.tape("01 01");
        due.is("frames", x.frames(0, 2), 2);
        due.fails("level -1", Due.ARGUMENT, () -> x.frames(0, -1));
        due.fails("level 3", Due.ARGUMENT, () -> x.frames(0, 3));
        due.fails("from -1", Due.ARGUMENT, () -> x.frames(-1, 0));
        due.fails("from 3", Due.ARGUMENT, () -> x.frames(3, 0));
        due.is("what was read is there still", x.frame(1, 4), 1);
        due.is("from 1", x.frames(1, 0), 1);
        due.is("begin", x.frame(0, 7), 1);
        due.is("from the end", x.frames(2, 0), 0);
        due.is("fault", x.fault(false), 0);
        due.is("place", x.fault(true), -1);
        due.fails("no frame", Due.NO_SUCH, () -> x.frame(0, 4));
    }

    private static void faultOfTheLast() {
        WireCodec x = Due.tape("01 1f");
        x.frames(0, 2);
        due.is("frames", x.fault(false), 2);
        due.is("frames", x.fault(true), 1);
        due.is("head", x.head(2, 0), -1);
        due.is("head", x.fault(false), 1);
        due.is("head", x.fault(true), 2);
        due.fails("head forgets frames", Due.NO_SUCH, () -> x.frame(0, 4));
        x.frames(0, 2);
        due.is("datagram", x.datagram(1, 0), 0);
        due.is("datagram", x.fault(false), 2);
        due.is("datagram", x.fault(true), 1);
        due.fails("datagram forgets frames", Due.NO_SUCH, () -> x.frame(0, 4));
        x.frames(0, 2);
        due.is("parameters", x.parameters(1, true), -1);
        due.is("parameters", x.fault(false), 1);
        due.is("parameters", x.fault(true), 1);
        due.fails("parameters forget frames", Due.NO_SUCH, () -> x.frame(0, 4));
        x.frames(0, 2);
        x.parameters(2, true);
        due.is("right parameters", x.fault(false), 0);
        due.is("right parameters", x.fault(true), -1);
        x.frames(0, 2);
        x.datagram(2, 0);
        due.is("an empty datagram", x.fault(false), 0);
        due.is("an empty datagram", x.fault(true), -1);
        x.clear();
        Due.feed(x, "40" + Due.bytes(20) + "01");
        x.head(0, 0);
        due.is("packet", x.packet(0, 0), 4);
        due.is("frames forget packets", x.frames(21, 2), 1);
        due.fails("frames forget packets", Due.NO_SUCH, () -> x.packet(0, 0));
        x.datagram(0, 0);
        due.is("packet", x.packet(0, 0), 4);
        x.parameters(22, true);
        due.fails("parameters forget packets", Due.NO_SUCH, () -> x.packet(0, 0));
    }

    private static void accessors() {
        WireCodec x = Due.tape("01 05 07 08");
        x.frames(0, 2);
        due.fails("what -1", Due.NO_SUCH, () -> x.frame(0, -1));
        due.fails("what 12", Due.NO_SUCH, () -> x.frame(0, 12));
        due.fails("frame -1", Due.NO_SUCH, () -> x.frame(-1, 0));
        due.fails("frame 2", Due.NO_SUCH, () -> x.frame(2, 0));
        due.fails("frame most", Due.NO_SUCH, () -> x.frame(Integer.MAX_VALUE, 0));
        due.fails("data of frame 2", Due.NO_SUCH, () -> x.data(2, 0, false));
        due.fails("data of frame -1", Due.NO_SUCH, () -> x.data(-1, 0, true));
        due.fails("range of frame 2", Due.NO_SUCH, () -> x.range(2, 0, false));
        due.is("begin", x.frame(1, 7), 1);
        due.is("end", x.frame(1, 8), 4);
        due.is("end of the first", x.frame(0, 8), 1);
        WireCodec y = Due.tape("07 01 aa 18 05 05 01 bb" + Due.bytes(16) + "07 02 ccdd 02 07 00 00 01 02 09 00 00 02");
        due.is("frames", y.frames(0, 2), 5);
        due.is("data of the first", y.data(0, 0, false), 0xaa);
        due.is("data of the second", y.data(1, 0, false), 0xbb);
        due.is("secret of the second", y.data(1, 0, true), 0xab);
        due.is("data of the third", y.data(2, 1, false), 0xdd);
        due.fails("the third has no secret", Due.NO_SUCH, () -> y.data(2, 0, true));
        due.fails("the fourth has no data", Due.NO_SUCH, () -> y.data(3, 0, false));
        due.is("range of the fifth", y.range(4, 0, false), 7);
        due.is("range of the fourth", y.range(3, 0, false), 6);
        due.is("range of the fourth", y.range(3, 0, true), 7);
        due.fails("the first has no range", Due.NO_SUCH, () -> y.range(0, 0, true));
    }

    private static void afterMoreBytes() {
        WireCodec x = Due.tape("08 05 aa");
        x.frames(0, 2);
        x.feed(0, 8);
        due.is("data stays", x.frame(0, 5), 1);
        due.is("end stays", x.frame(0, 8), 3);
        due.fails("data stays", Due.NO_SUCH, () -> x.data(0, 1, false));
        x.clear();
        Due.feed(x, "00 00");
        x.frames(0, 2);
        x.feed(0, 8);
        due.is("padding stays", x.frame(0, 0), 2);
        due.is("frames again", x.frames(0, 2), 1);
        due.is("padding is longer", x.frame(0, 0), 10);
    }

    private static void manyFrames() {
        WireCodec x = new WireCodec();
        for (int k = 0; k < 200; k++) {
            x.feed(0x0101010101010101L, 8);
        }
        due.is("frames", x.frames(0, 1), 1600);
        due.is("the last", x.frame(1599, 7), 1599);
        for (int i = 510; i < 515; i++) {
            due.is("one in the middle", x.frame(i, 8), i + 1);
        }
        due.fails("one more", Due.NO_SUCH, () -> x.frame(1600, 7));
        due.is("frames of the rest", x.frames(1599, 1), 1);
        due.is("the first of the rest", x.frame(0, 7), 1599);
    }
}
