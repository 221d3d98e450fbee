/** 'Terms', READING frames at a level, and promises 8 to 12: frames, fault, frame, data, range. */
public final class FramesTest {
    private static final Due due = new Due("FramesTest");
    private static final FrameChecks checks = new FrameChecks(due);
    private static final int CUT = FrameChecks.CUT;
    private static final int KIND = FrameChecks.KIND;
    private static final int VALUE = FrameChecks.VALUE;
    private static final int LEVEL = FrameChecks.LEVEL;
    private static final String F8 = "ffffffffffffffff";

    // A right frame for each first byte.
    private static final String[] RIGHT = {
        "00", "01", "02 00000000", "03 00000000 000000", "04 000000", "05 0000", "06 0000", "07 01aa",
        "08 00", "09 00", "0a 0000", "0b 0000", "0c 0000", "0d 0000", "0e 000000", "0f 000000",
        "10 00", "11 0000", "12 00", "13 00", "14 00", "15 0000", "16 00", "17 00",
        "18 0000 01 aa" + Due.bytes(16), "19 00", "1a" + Due.bytes(8), "1b" + Due.bytes(8),
        "1c 000000", "1d 0000", "1e"
    };

    public static void main(String[] args) {
        tests(due);
        due.end();
    }

    static void tests(Due d) {
        terms(d);
        d.test("Promise 8", "Reads frames from a place on: how many are right (up to the wrong one, if there is one).",
                FramesTest::howMany);
        d.test("Promise 8", "Throws IllegalArgumentException when level is not 0 .. 2", FramesTest::noLevel);
        d.test("Promise 8", "or from not 0 .. size.", FramesTest::noPlace);
        d.test("Promise 9", "Of what frames, head, datagram or parameters read last", FramesTest::readLast);
        d.test("Promise 9", "(each of these forgets the frames and packets that were read before)",
                FramesTest::forgets);
        d.test("Promise 9", "its fault, 0 for none", FramesTest::faultNone);
        d.test("Promise 9",
                "with place: where what is wrong begins, -1 for none (of a head and datagram: the header; of"
                + " parameters: the id).", FramesTest::faultPlace);
        d.test("Promise 10",
                "Of frame i that was read: 0 a, 1 b, 2 c, 3 d, 4 its kind, 5 the bytes of its data, 6 its ranges (0"
                + " but for ACK), 7 where it begins, 8 where it ends, 9 .. 11 its counts.", FramesTest::frame);
        d.test("Promise 10", "Throws NoSuchElementException when there is no such frame or what.", FramesTest::noFrame);
        d.test("Promise 11", "Byte j of a frame's data, or of its secret.", FramesTest::data);
        d.test("Promise 11", "Throws NoSuchElementException when there is none.", FramesTest::noData);
        d.test("Promise 12", "The least or greatest number of range k of frame i.", FramesTest::range);
        d.test("Promise 12", "Throws NoSuchElementException when there is none.", FramesTest::noRange);
    }

    private static void terms(Due d) {
        d.test("Promise 8, Terms",
                "READING frames at a LEVEL (0 FIRST, 1 MIDDLE, 2 LAST) goes from a place to the end of the tape",
                FramesTest::fromAPlaceToTheEnd);
        d.test("Promise 8, Terms", "the first frame that is wrong ends it, with a FAULT and that frame's PLACE",
                FramesTest::firstWrongEnds);
        d.test("Promise 8, Terms", "2 KIND: no such kind (the byte)", FramesTest::kinds);
        d.test("Promise 8, Terms", "4 LEVEL: at the levels 0 and 1 none but 0, 1, 2, 3, 6, 28", FramesTest::levels);
        d.test("Promise 8, Terms", "1 CUT: the bytes are over within it (also a data that is longer)",
                FramesTest::cuts);
        d.test("Promise 8, Terms", "3 VALUE: a field is not as said (all of it is there).", FramesTest::values);
        d.test("Promise 8, Terms", "For one frame they are looked at in this order.", FramesTest::order);
    }

    private static void fromAPlaceToTheEnd() {
        for (int level = 0; level <= 2; level++) {
            WireCodec x = Due.tape("01 02 00 00 00 00 06 00 01 aa 1c 00 00 00 0000");
            due.is("from the begin", x.frames(0, level), 5);
            due.is("the first begins", x.frame(0, 7), 0);
            due.is("the last ends", x.frame(4, 8), 16);
            due.is("from within", x.frames(6, level), 3);
            due.is("the first begins", x.frame(0, 7), 6);
            due.is("the last ends", x.frame(2, 8), 16);
            due.is("the last byte", x.frames(15, level), 1);
            due.is("it begins", x.frame(0, 7), 15);
            due.is("from the end", x.frames(16, level), 0);
            due.is("no fault there", x.fault(false), 0);
        }
        WireCodec y = Due.tape("00 00");
        y.frames(0, 2);
        y.feed(0, 8);
        due.is("the end of the tape when it was read", y.frame(0, 0), 2);
        due.is("read again", y.frames(0, 2), 1);
        due.is("the end that it has now", y.frame(0, 0), 10);
    }

    private static void firstWrongEnds() {
        WireCodec x = Due.tape("01 01 1f 01 07 00 01");
        due.is("up to the first", x.frames(0, 2), 2);
        due.is("its fault", x.fault(false), KIND);
        due.is("its place", x.fault(true), 2);
        due.fails("none behind it", Due.NO_SUCH, () -> x.frame(2, 4));
        due.is("from behind it", x.frames(3, 2), 1);
        due.is("the next fault", x.fault(false), VALUE);
        due.is("its place", x.fault(true), 4);
        due.is("at the wrong one", x.frames(4, 2), 0);
        due.is("its place", x.fault(true), 4);
        due.is("behind all", x.frames(6, 2), 1);
        due.is("no fault", x.fault(false), 0);
        due.is("no place", x.fault(true), -1);
        wrongOneLeavesNothing();
    }

    /** Whatever was wrong, a frame that is read behind it is right, and has nothing of the wrong one. */
    private static void wrongOneLeavesNothing() {
        String[] wrong = {"1f", "02 05 00 00 06", "03 05 00 01 05 00 00 00 00 00", "02 05 00 09 00", "07 00",
            "18 05 06 01 aa" + Due.bytes(16), "18 05 05 01 aa", "06" + F8 + "01 aa", "0f 05" + F8 + "03 aabbcc",
            "12" + F8, "04 05 06"};
        String[] right = {"01", "00", "02 00 00 00 00", "06 00 00", "0a 00 00", "10 00"};
        for (String bad : wrong) {
            for (String good : right) {
                WireCodec x = Due.tape(good + bad);
                int behind = good.replace(" ", "").length() / 2;
                due.is(bad + " is wrong", x.frames(behind, 2), 0);
                due.is(good + " ahead of it is right", x.frames(0, 2), 1);
                due.is("the wrong one's place", x.fault(true), behind);
                due.is("b", x.frame(0, 1), 0);
                due.is("c", x.frame(0, 2), 0);
                due.is("bytes", x.frame(0, 5), 0);
                due.is("where it ends", x.frame(0, 8), behind);
                due.is("a count", x.frame(0, 9), 0);
                due.fails("data", Due.NO_SUCH, () -> x.data(0, 0, false));
                due.fails("secret", Due.NO_SUCH, () -> x.data(0, 0, true));
            }
        }
    }

    private static void kinds() {
        for (int first = 0; first <= 30; first++) {
            due.is("a kind: " + first, Due.tape(RIGHT[first]).frames(0, 2), 1);
        }
        for (int first = 31; first < 256; first++) {
            checks.wrong(Due.hex(first), first % 3, KIND);
        }
        for (int level = 0; level < 3; level++) {
            checks.wrong("1f", level, KIND);
            checks.wrong("20", level, KIND);
            checks.wrong("80", level, KIND);
            checks.wrong("ff", level, KIND);
        }
    }

    private static void levels() {
        for (int first = 0; first <= 30; first++) {
            boolean early = first < 4 || first == 6 || first == 28;
            WireCodec x = Due.tape(RIGHT[first]);
            due.is("at the last level " + first, x.frames(0, 2), 1);
            for (int level = 0; level < 2; level++) {
                due.is("at level " + level + " " + first, x.frames(0, level), early ? 1 : 0);
                due.is("its fault", x.fault(false), early ? 0 : LEVEL);
            }
        }
    }

    private static void cuts() {
        String[] whole = {
            "02 4064 400c 4002 4005 4000 4003 4009 4000", "03 05 00 00 05 4001 4002 4003", "04 4001 4102 80000003",
            "05 4007 4008", "06 4009 4002 aabb", "07 4002 aabb", "0a 4005 4002 aabb", "0f 4005 4009 4003 aabbcc",
            "10 4007", "11 4007 4008", "12 4007", "13 4007", "14 4007", "15 4007 4008", "16 4007", "17 4007",
            "18 4005 4005 02 aabb" + Due.bytes(16), "19 4007", "1a" + Due.bytes(8), "1b" + Due.bytes(8),
            "1c 4001 4002 4002 aabb", "1d 4001 4002 aabb"
        };
        for (String hex : whole) {
            checks.cutAnywhere(hex);
        }
        String[] ahead = {"06 00", "07", "0a 05", "0e 05 09", "1c 00 00", "1d 00"};
        for (String hex : ahead) {
            due.is("data that is all there", Due.tape(hex + "02 aabb").frames(0, 2), 1);
            checks.wrong(hex + "03 aabb", 2, CUT);
            checks.wrong(hex + "01", 2, CUT);
            checks.wrong(hex + "80010000 aabb", 2, CUT);
            checks.wrong(hex + "c000000100000002 aabb", 2, CUT);
            checks.wrong(hex + F8 + "aabb", 2, CUT);
        }
    }

    private static void values() {
        checks.wrong("07 00", 2, VALUE);
        checks.wrong("18 05 06 01 aa" + Due.bytes(16), 2, VALUE);
        checks.wrong("18 05 05 00" + Due.bytes(16), 2, VALUE);
        checks.wrong("18 05 05 15" + Due.bytes(37), 2, VALUE);
        checks.wrong("12 d000000000000001", 2, VALUE);
        checks.wrong("06" + F8 + "01 aa", 1, VALUE);
        checks.wrong("0c 00" + F8 + "aa", 2, VALUE);
        checks.wrong("02 05 00 00 06", 0, VALUE);
    }

    private static void order() {
        // KIND ahead of LEVEL and CUT.
        checks.wrong("1f", 0, KIND);
        checks.wrong("ff", 1, KIND);
        // LEVEL ahead of CUT, and ahead of VALUE.
        for (int first = 0; first <= 30; first++) {
            if (first > 3 && first != 6 && first != 28) {
                checks.wrong(Due.hex(first), 0, LEVEL);
                checks.wrong(Due.hex(first), 1, LEVEL);
            }
        }
        checks.wrong("07 00", 0, LEVEL);
        checks.wrong("12 d000000000000001", 1, LEVEL);
        // CUT ahead of VALUE: what is wrong is there, but not all of the frame.
        checks.wrong("18 05 06 01 aa" + Due.bytes(15), 2, CUT);
        checks.wrong("18 05 06", 2, CUT);
        checks.wrong("18 05 05 00" + Due.bytes(15), 2, CUT);
        checks.wrong("18 05 05 15" + Due.bytes(36), 2, CUT);
        checks.wrong("18 05 05 ff" + Due.bytes(270), 2, CUT);
        checks.wrong("06" + F8 + "01", 0, CUT);
        checks.wrong("0e 05" + F8 + "02 aa", 2, CUT);
        checks.wrong("02 05 00 01 06 00", 0, CUT);
        checks.wrong("02 05 00 01 06", 0, CUT);
        checks.wrong("03 05 00 00 06 00 00", 1, CUT);
        checks.wrong("02 05 00 02 01 03 00 00", 1, CUT);
    }

    private static void howMany() {
        WireCodec x = new WireCodec();
        for (int k = 0; k < 200; k++) {
            x.feed(0x0101010101010101L, 8);
        }
        due.is("frames", x.frames(0, 1), 1600);
        due.is("the last", x.frame(1599, 7), 1599);
        for (int i = 510; i < 515; i++) {
            due.is("one in the middle", x.frame(i, 8), i + 1);
        }
        due.fails("one more", Due.NO_SUCH, () -> x.frame(1600, 7));
        due.is("frames of the rest", x.frames(1599, 1), 1);
        due.is("the first of the rest", x.frame(0, 7), 1599);
        due.fails("no more of those before", Due.NO_SUCH, () -> x.frame(1, 7));
        due.is("none", x.frames(1600, 1), 0);
        due.is("none of an empty tape", new WireCodec().frames(0, 2), 0);
        due.is("up to the wrong one", Due.tape("01 01 01 ff").frames(0, 2), 3);
        due.is("the first is wrong", Due.tape("ff 01").frames(0, 2), 0);
    }

    private static void noLevel() {
        int[] none = {-1, 3, 4, Integer.MIN_VALUE, Integer.MAX_VALUE};
        for (int level : none) {
            due.refused("frames(0, " + level + ")", Due.ARGUMENT, x -> x.frames(0, level));
        }
    }

    private static void noPlace() {
        int[] none = {-1, Integer.MIN_VALUE, Integer.MAX_VALUE, 65537};
        for (int from : none) {
            due.refused("frames(" + from + ", 2)", Due.ARGUMENT, x -> x.frames(from, 2));
        }
        due.refused("frames(size + 1, 2)", Due.ARGUMENT, x -> x.frames(x.size() + 1, 2));
        due.refused("behind a full tape", Due.ARGUMENT, () -> Pasts.framesRead(65536), x -> x.frames(65537, 2));
        due.is("from the size", Pasts.framesRead(65536).frames(65536, 2), 0);
        due.is("from 0", Due.tape("01").frames(0, 2), 1);
    }

    private static void readLast() {
        WireCodec x = Due.tape("01 1f");
        x.frames(0, 2);
        due.is("frames", x.fault(false), KIND);
        x.head(2, 0);
        due.is("head", x.fault(false), 1);
        x.frames(0, 2);
        due.is("frames", x.fault(false), KIND);
        x.datagram(1, 0);
        due.is("datagram", x.fault(false), 2);
        x.parameters(1, true);
        due.is("parameters", x.fault(false), 1);
        x.frames(0, 2);
        x.read(0);
        x.cut(5, 4);
        x.grow(5, 4, 1);
        due.fails("refused", Due.ARGUMENT, () -> x.head(3, 0));
        due.is("other calls, and refused ones, read nothing", x.fault(false), KIND);
        x.feed(1, 1);
        x.put(1);
        due.is("writing reads nothing", x.fault(true), 1);
    }

    private static void forgets() {
        Due.Made[] reads = {x -> x.frames(x.size(), 2), x -> x.head(x.size(), 0), x -> x.datagram(x.size(), 0),
            x -> x.parameters(x.size(), true)};
        for (Due.Made read : reads) {
            WireCodec frames = Pasts.framesRead(0);
            due.is("a frame", frames.frame(2, 4), 3);
            read.on(frames);
            due.fails("no frame", Due.NO_SUCH, () -> frames.frame(0, 4));
            due.fails("no data", Due.NO_SUCH, () -> frames.data(0, 0, false));
            due.fails("no secret", Due.NO_SUCH, () -> frames.data(1, 0, true));
            due.fails("no range", Due.NO_SUCH, () -> frames.range(2, 0, false));
            WireCodec packets = Pasts.datagramRead(0);
            due.is("a packet", packets.packet(0, 1), 5);
            read.on(packets);
            due.fails("no packet", Due.NO_SUCH, () -> packets.packet(0, 1));
        }
        WireCodec both = Due.tape("01 01 40" + Due.bytes(20));
        both.frames(0, 2);
        both.head(2, 0);
        due.fails("packets are no frames", Due.NO_SUCH, () -> both.frame(0, 4));
        both.frames(0, 2);
        due.fails("frames are no packets", Due.NO_SUCH, () -> both.packet(0, 0));
    }

    private static void faultNone() {
        WireCodec x = Due.tape("01");
        due.is("before any reading", x.fault(false), 0);
        x.frames(0, 2);
        due.is("right frames", x.fault(false), 0);
        WireCodec y = Due.tape("ff" + "40" + Due.bytes(20) + "04 01 05");
        Due.Made[] rights = {v -> v.frames(25, 2), v -> v.head(1, 0), v -> v.datagram(1, 0), v -> v.parameters(22, false)};
        for (Due.Made right : rights) {
            y.frames(0, 2);
            due.is("a fault", y.fault(false), KIND);
            right.on(y);
            due.is("none any more", y.fault(false), 0);
            due.is("no place", y.fault(true), -1);
        }
    }

    private static void faultPlace() {
        WireCodec x = Due.tape("00 01 07 00");
        due.is("before any reading", x.fault(true), -1);
        x.frames(1, 2);
        due.is("frames: the frame", x.fault(true), 2);
        x.frames(1, 1);
        due.is("frames: the frame", x.fault(true), 2);
        x.head(3, 0);
        due.is("head: the header", x.fault(true), 3);
        x.head(4, 0);
        due.is("head: the header that is not there", x.fault(true), 4);
        x.datagram(2, 0);
        due.is("datagram: the header", x.fault(true), 2);
        due.is("datagram: the header of the second", Pasts.datagramRead(0).fault(true), 37);
        WireCodec y = Due.tape("ff 4004 01 05 400c 02 0000");
        y.parameters(1, true);
        due.is("parameters: the id", y.fault(true), 5);
        y.frames(0, 2);
        due.is("a place of 0", y.fault(true), 0);
        y.parameters(10, true);
        due.is("none", y.fault(true), -1);
    }

    private static void frame() {
        WireCodec x = Pasts.framesRead(0);
        long[][] want = {
            {5, 9, 1, 1, 8, 3, 0, 3, 10, 0, 0, 0}, {7, 6, 0, 0, 24, 2, 0, 10, 32, 0, 0, 0},
            {10, 1, 0, 0, 3, 0, 2, 32, 42, 7, 8, 9}
        };
        for (int i = 2; i >= 0; i--) {
            for (int what = 0; what < 12; what++) {
                due.is("frame(" + i + ", " + what + ")", x.frame(i, what), want[i][what]);
            }
        }
        WireCodec y = Due.tape("04 01 02 03");
        y.frames(0, 2);
        due.is("c that is a number", y.frame(0, 2), 3);
    }

    private static void noFrame() {
        int[] none = {-1, 3, 4, 65536, Integer.MIN_VALUE, Integer.MAX_VALUE};
        for (int i : none) {
            due.refused("frame(" + i + ", 0)", Due.NO_SUCH, x -> x.frame(i, 0));
        }
        int[] noWhat = {-1, 12, 13, Integer.MIN_VALUE, Integer.MAX_VALUE};
        for (int what : noWhat) {
            due.refused("frame(0, " + what + ")", Due.NO_SUCH, x -> x.frame(0, what));
        }
        due.is("the last frame, the last what", Pasts.framesRead(0).frame(2, 11), 9);
        due.refused("no packet is a frame", Due.NO_SUCH, () -> Pasts.datagramRead(0), x -> x.frame(0, 0));
        due.refused("the wrong one is no frame", Due.NO_SUCH, () -> Pasts.framesRead(0), x -> x.frame(3, 4));
    }

    private static void data() {
        WireCodec x = Due.tape("07 01 aa 18 05 05 01 bb" + "000102030405060708090a0b0c0d0e0f" + "07 02 ccff 0b 05 03 800001");
        due.is("frames", x.frames(0, 2), 4);
        checks.data(x, 0, false, "aa");
        checks.data(x, 1, false, "bb");
        checks.data(x, 1, true, "000102030405060708090a0b0c0d0e0f");
        checks.data(x, 2, false, "ccff");
        checks.data(x, 3, false, "800001");
    }

    private static void noData() {
        Due.Past frames = () -> Pasts.framesRead(0);
        due.is("the last of the first", frames.make().data(0, 2, false), 0xcc);
        due.refused("one behind", Due.NO_SUCH, frames, x -> x.data(0, 3, false));
        due.refused("j -1", Due.NO_SUCH, frames, x -> x.data(0, -1, false));
        due.refused("j least", Due.NO_SUCH, frames, x -> x.data(0, Integer.MIN_VALUE, false));
        due.refused("j most", Due.NO_SUCH, frames, x -> x.data(0, Integer.MAX_VALUE, false));
        due.refused("a STREAM has no secret", Due.NO_SUCH, frames, x -> x.data(0, 0, true));
        due.is("the last of the secret", frames.make().data(1, 15, true), 0x10);
        due.refused("one behind the secret", Due.NO_SUCH, frames, x -> x.data(1, 16, true));
        due.refused("one ahead of the secret", Due.NO_SUCH, frames, x -> x.data(1, -1, true));
        due.is("the last of the name", frames.make().data(1, 1, false), 0xee);
        due.refused("one behind the name", Due.NO_SUCH, frames, x -> x.data(1, 2, false));
        due.refused("an ACK has no data", Due.NO_SUCH, frames, x -> x.data(2, 0, false));
        due.refused("an ACK has no secret", Due.NO_SUCH, frames, x -> x.data(2, 0, true));
        due.refused("no such frame", Due.NO_SUCH, x -> x.data(3, 0, false));
        due.refused("no such frame", Due.NO_SUCH, x -> x.data(-1, 0, false));
        due.refused("no such frame", Due.NO_SUCH, x -> x.data(Integer.MAX_VALUE, 0, true));
        due.refused("no such frame", Due.NO_SUCH, x -> x.data(Integer.MIN_VALUE, 0, true));
        WireCodec empty = Due.tape("06 00 00 01 1d 00 00");
        due.is("frames", empty.frames(0, 2), 3);
        for (int i = 0; i < 3; i++) {
            int frame = i;
            due.fails("empty data has no byte", Due.NO_SUCH, () -> empty.data(frame, 0, false));
        }
    }

    private static void range() {
        WireCodec x = Due.tape("02 4064 0c 02 05 00 03 08 00 03 0a 01 01 02 03 03 07 08 09 02 07 00 00 01");
        due.is("frames", x.frames(0, 2), 3);
        checks.ranges(x, 2, 6, 7);
        checks.ranges(x, 1, 8, 10, 0, 3);
        checks.ranges(x, 0, 95, 100, 90, 93, 80, 80);
    }

    private static void noRange() {
        Due.Past frames = () -> Pasts.framesRead(0);
        due.is("the last", frames.make().range(2, 1, false), 0);
        due.refused("one more", Due.NO_SUCH, frames, x -> x.range(2, 2, false));
        due.refused("k -1", Due.NO_SUCH, frames, x -> x.range(2, -1, true));
        due.refused("k least", Due.NO_SUCH, frames, x -> x.range(2, Integer.MIN_VALUE, true));
        due.refused("k most", Due.NO_SUCH, frames, x -> x.range(2, Integer.MAX_VALUE, true));
        due.refused("a STREAM has none", Due.NO_SUCH, frames, x -> x.range(0, 0, false));
        due.refused("a NEW NAME has none", Due.NO_SUCH, frames, x -> x.range(1, 0, true));
        due.refused("no such frame", Due.NO_SUCH, x -> x.range(3, 0, false));
        due.refused("no such frame", Due.NO_SUCH, x -> x.range(-1, 0, false));
        due.refused("no such frame", Due.NO_SUCH, x -> x.range(Integer.MIN_VALUE, 0, false));
        due.refused("no such frame", Due.NO_SUCH, x -> x.range(Integer.MAX_VALUE, 0, true));
    }
}
