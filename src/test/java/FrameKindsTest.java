/** 'Terms', FRAMES: what each kind of frame is made of, with the least and the most of each field. */
public final class FrameKindsTest {
    private static final Due due = new Due("FrameKindsTest");
    private static final FrameChecks checks = new FrameChecks(due);
    private static final int VALUE = FrameChecks.VALUE;
    private static final int CUT = FrameChecks.CUT;
    private static final int KIND = FrameChecks.KIND;
    private static final long MAX = Due.GREATEST;
    private static final String SECRET = "000102030405060708090a0b0c0d0e0f";
    private static final String F8 = "ffffffffffffffff";

    public static void main(String[] args) {
        tests(due);
        due.end();
    }

    static void tests(Due d) {
        d.test("Promise 8, Terms", "FRAMES. A frame is its KIND, in one byte, and fields",
                FrameKindsTest::kindInOneByte);
        d.test("Promise 8, Terms",
                "n is a number, x(k) k bytes as a word, D(n) as many bytes of DATA as the number ahead of it says.",
                FrameKindsTest::fields);
        d.test("Promise 8, Terms", "Fields are a, b, c, d; what a kind does not have is 0.",
                FrameKindsTest::othersAreZero);
        d.test("Promise 8, Terms", "0 PADDING: all bytes 0 up to the next other one are one frame, a how many.",
                FrameKindsTest::padding);
        d.test("Promise 8, Terms", "1 PING, 30 DONE: nothing.", FrameKindsTest::nothing);
        plainKinds(d);
        d.test("Promise 8, Terms", "6 CRYPTO: n b offset, D(n).", FrameKindsTest::crypto);
        d.test("Promise 8, Terms", "7 TOKEN: D(n), not empty.", FrameKindsTest::token);
        d.test("Promise 8, Terms",
                "24 NEW NAME: n a, n b (not above a), x(1) 1 .. 20, so many bytes of data, and 16 bytes of SECRET.",
                FrameKindsTest::newName);
        d.test("Promise 8, Terms", "26 CHALLENGE, 27 RESPONSE: x(8) a (any long).", FrameKindsTest::words);
        d.test("Promise 8, Terms", "28 CLOSE: n a code, n b kind of a frame, D(n).", FrameKindsTest::close);
        d.test("Promise 8, Terms", "29 CLOSE (of an application): n a code, D(n).", FrameKindsTest::closeOfApplication);
        d.test("Promise 8, Terms", "In 18, 19, 22, 23 a is at most 1152921504606846976.", FrameKindsTest::mostStreams);
        d.test("Promise 8, Terms",
                "8 .. 15 STREAM, told as kind 8: the bit 4 of the byte: there is an offset; 2: a length; 1: c is 1"
                + " (FIN).", FrameKindsTest::streamBits);
        d.test("Promise 8, Terms",
                "n a stream; n b offset, if there is one, or else 0; D(n), if there is a length (d is 1 then)",
                FrameKindsTest::streamFields);
        d.test("Promise 8, Terms", "or else all bytes up to the end are data.", FrameKindsTest::streamToTheEnd);
        d.test("Promise 8, Terms", "For CRYPTO and STREAM, b + the bytes of data is a number, too.",
                FrameKindsTest::offsetAndData);
        d.test("Promise 8, Terms",
                "2, 3 ACK: n a the LARGEST, n b delay, n how many RANGES follow, n FIRST; the first range is a -"
                + " FIRST .. a", FrameKindsTest::ackFirst);
        d.test("Promise 8, Terms",
                "then for each that follows n GAP, n SIZE: with l the least of the range before, its greatest is l -"
                + " GAP - 2, its least SIZE less.", FrameKindsTest::ackFollowing);
        d.test("Promise 8, Terms", "None is below 0.", FrameKindsTest::ackBelowZero);
        d.test("Promise 8, Terms", "3 has three COUNTS more, n each.", FrameKindsTest::ackCounts);
    }

    private static void plainKinds(Due d) {
        d.test("Promise 8, Terms", "4 RESET: n a stream, n b code, n c final size.", () -> {
            checks.one("04 01 4102 80000003", 1, 258, 3, 0, 4);
            checks.one("04 00 00 00", 0, 0, 0, 0, 4);
            checks.one("04" + F8 + F8 + F8, MAX, MAX, MAX, 0, 4);
            checks.cutAnywhere("04 4001 4102 80000003");
        });
        d.test("Promise 8, Terms", "5 STOP: n a stream, n b code.", () -> two(5));
        d.test("Promise 8, Terms", "16 MAX DATA: n a.", () -> alone(16, MAX));
        d.test("Promise 8, Terms", "17 MAX STREAM DATA: n a stream, n b.", () -> two(17));
        d.test("Promise 8, Terms", "18, 19 MAX STREAMS: n a.", () -> {
            alone(18, Due.MOST_STREAMS);
            alone(19, Due.MOST_STREAMS);
        });
        d.test("Promise 8, Terms", "20 DATA BLOCKED: n a.", () -> alone(20, MAX));
        d.test("Promise 8, Terms", "21 STREAM DATA BLOCKED: n a stream, n b.", () -> two(21));
        d.test("Promise 8, Terms", "22, 23 STREAMS BLOCKED: n a.", () -> {
            alone(22, Due.MOST_STREAMS);
            alone(23, Due.MOST_STREAMS);
        });
        d.test("Promise 8, Terms", "25 RETIRE: n a.", () -> alone(25, MAX));
    }

    private static void alone(int kind, long most) {
        String first = Due.hex(kind);
        checks.one(first + "00", 0, 0, 0, 0, kind);
        checks.one(first + "4105", 261, 0, 0, 0, kind);
        checks.one(first + String.format("%016x", most | 3L << 62), most, 0, 0, 0, kind);
        checks.cutAnywhere(first + "c000000000000007");
    }

    private static void two(int kind) {
        String first = Due.hex(kind);
        checks.one(first + "07 08", 7, 8, 0, 0, kind);
        checks.one(first + "00 00", 0, 0, 0, 0, kind);
        checks.one(first + F8 + F8, MAX, MAX, 0, 0, kind);
        checks.cutAnywhere(first + "4007 80000008");
    }

    private static void kindInOneByte() {
        checks.one("01", 0, 0, 0, 0, 1);
        checks.wrong("4001", 2, KIND);
        checks.wrong("80000001", 2, KIND);
        checks.wrong("c000000000000001", 2, KIND);
    }

    private static void fields() {
        checks.one("10 05", 5, 0, 0, 0, 16);
        checks.one("10 4005", 5, 0, 0, 0, 16);
        checks.one("10 80000005", 5, 0, 0, 0, 16);
        checks.one("10 c000000000000005", 5, 0, 0, 0, 16);
        checks.one("1a 4000000000000005", 0x4000000000000005L, 0, 0, 0, 26);
        checks.data(checks.one("1d 00 00", 0, 0, 0, 0, 29, 0), 0, false, "");
        checks.data(checks.one("1d 00 01 aa", 0, 0, 0, 0, 29, 1), 0, false, "aa");
        checks.data(checks.one("1d 00 4003 aabbcc", 0, 0, 0, 0, 29, 3), 0, false, "aabbcc");
        checks.one("1d 00 3f" + Due.bytes(63), 0, 0, 0, 0, 29, 63);
        checks.one("1d 00 4040" + Due.bytes(64), 0, 0, 0, 0, 29, 64);
    }

    /** Each kind behind frames that had everything, so nothing of those may be left. */
    private static void othersAreZero() {
        String full = "0f 05 09 03 aabbcc 18 07 06 02 ddee" + SECRET + "03 0a 01 01 02 03 03 07 08 09 04 01 02 03";
        String[] bare = {"00", "01", "02 00 00 00 00", "05 00 00", "06 00 00", "0a 00 00", "10 00", "1a 0000000000000000",
            "1c 00 00 00", "1e"};
        int[] kinds = {0, 1, 2, 5, 6, 8, 16, 26, 28, 30};
        for (int k = 0; k < bare.length; k++) {
            WireCodec x = Due.tape(full + bare[k]);
            int begin = full.replace(" ", "").length() / 2;
            due.is("frames", x.frames(0, 2), 5);
            long[] want = {kinds[k] == 0 ? 1 : 0, 0, 0, kinds[k] == 8 ? 1 : 0, kinds[k], 0, kinds[k] == 2 ? 1 : 0, begin,
                x.size(), 0, 0, 0};
            for (int what = 0; what < 12; what++) {
                x.frame(what % 4, 0);
                due.is(bare[k] + " frame(4, " + what + ")", x.frame(4, what), want[what]);
            }
            due.fails("no data", Due.NO_SUCH, () -> x.data(4, 0, false));
            due.fails("no secret", Due.NO_SUCH, () -> x.data(4, 0, true));
        }
    }

    private static void padding() {
        checks.one("00", 1);
        checks.one("00000000", 4);
        WireCodec x = Due.tape("0000 01 00 01 000000");
        due.is("frames", x.frames(0, 0), 5);
        due.is("a of the first", x.frame(0, 0), 2);
        due.is("a of the one between", x.frame(2, 0), 1);
        due.is("it begins", x.frame(2, 7), 3);
        due.is("it ends", x.frame(2, 8), 4);
        due.is("a of the last", x.frame(4, 0), 3);
        due.is("from within", x.frames(1, 0), 5);
        due.is("a of the rest", x.frame(0, 0), 1);
        WireCodec full = Due.filled(65536);
        due.is("a full tape", full.frames(0, 0), 1);
        due.is("a of it", full.frame(0, 0), 65536);
        due.is("its last byte alone", full.frames(65535, 0), 1);
        due.is("a of that", full.frame(0, 0), 1);
    }

    private static void nothing() {
        checks.one("01", 0, 0, 0, 0, 1);
        checks.one("1e", 0, 0, 0, 0, 30);
        due.is("one byte each", Due.tape("01 1e 1e 01").frames(0, 2), 4);
    }

    private static void crypto() {
        checks.data(checks.one("06 09 02 aabb", 0, 9, 0, 0, 6, 2), 0, false, "aabb");
        checks.data(checks.one("06 00 00", 0, 0, 0, 0, 6, 0), 0, false, "");
        checks.one("06" + F8 + "00", 0, MAX, 0, 0, 6, 0);
        checks.cutAnywhere("06 4009 4002 aabb");
    }

    private static void token() {
        checks.data(checks.one("07 01 aa", 0, 0, 0, 0, 7, 1), 0, false, "aa");
        checks.wrong("07 00", 2, VALUE);
        checks.wrong("07 4000", 2, VALUE);
        checks.wrong("07 00 aa", 2, VALUE);
        checks.cutAnywhere("07 4002 aabb");
    }

    private static void newName() {
        WireCodec x = checks.one("18 05 05 02 aabb" + SECRET, 5, 5, 0, 0, 24, 2);
        checks.data(x, 0, false, "aabb");
        checks.data(x, 0, true, SECRET);
        checks.one("18 00 00 01 aa" + SECRET, 0, 0, 0, 0, 24, 1);
        checks.one("18" + F8 + F8 + "01 aa" + SECRET, MAX, MAX, 0, 0, 24, 1);
        checks.one("18 05 04 01 aa" + SECRET, 5, 4, 0, 0, 24, 1);
        checks.wrong("18 05 06 01 aa" + SECRET, 2, VALUE);
        checks.wrong("18 00 01 01 aa" + SECRET, 2, VALUE);
        checks.wrong("18 00" + F8 + "01 aa" + SECRET, 2, VALUE);
        checks.wrong("18 05 05 00" + SECRET, 2, VALUE);
        checks.one("18 05 05 14" + Due.bytes(20) + SECRET, 5, 5, 0, 0, 24, 20);
        checks.wrong("18 05 05 15" + Due.bytes(21) + SECRET, 2, VALUE);
        checks.wrong("18 05 05 41" + Due.bytes(65) + SECRET, 2, VALUE);
        checks.wrong("18 05 05 ff" + Due.bytes(255) + SECRET, 2, VALUE);
        checks.cutAnywhere("18 4005 4005 14" + Due.bytes(20) + SECRET);
        WireCodec y = Due.tape("18 05 05 01 aa" + SECRET + "01");
        due.is("16 bytes of secret, no more", y.frames(0, 2), 2);
        due.is("where it ends", y.frame(0, 8), 21);
    }

    private static void words() {
        for (int kind = 26; kind <= 27; kind++) {
            String first = Due.hex(kind);
            checks.one(first + "0000000000000000", 0, 0, 0, 0, kind);
            checks.one(first + F8, -1, 0, 0, 0, kind);
            checks.one(first + "8000000000000000", Long.MIN_VALUE, 0, 0, 0, kind);
            checks.one(first + "7fffffffffffffff", Long.MAX_VALUE, 0, 0, 0, kind);
            checks.cutAnywhere(first + "0102030405060708");
        }
    }

    private static void close() {
        checks.data(checks.one("1c 4123 02 02 aabb", 0x123, 2, 0, 0, 28, 2), 0, false, "aabb");
        checks.one("1c 00 00 00", 0, 0, 0, 0, 28);
        checks.one("1c" + F8 + "1e 00", MAX, 30, 0, 0, 28);
        checks.one("1c 00 1f 00", 0, 31, 0, 0, 28);
        checks.one("1c 00" + F8 + "00", 0, MAX, 0, 0, 28);
        checks.cutAnywhere("1c 4001 4002 4002 aabb");
    }

    private static void closeOfApplication() {
        checks.data(checks.one("1d 01 03 aabbcc", 1, 0, 0, 0, 29, 3), 0, false, "aabbcc");
        checks.one("1d 00 00", 0, 0, 0, 0, 29);
        checks.one("1d" + F8 + "00", MAX, 0, 0, 0, 29);
        checks.cutAnywhere("1d 4001 4002 aabb");
    }

    private static void mostStreams() {
        int[] kinds = {18, 19, 22, 23};
        for (int kind : kinds) {
            String first = Due.hex(kind);
            checks.one(first + "cfffffffffffffff", Due.MOST_STREAMS - 1, 0, 0, 0, kind);
            checks.one(first + "d000000000000000", Due.MOST_STREAMS, 0, 0, 0, kind);
            checks.wrong(first + "d000000000000001", 2, VALUE);
            checks.wrong(first + F8, 2, VALUE);
        }
        int[] others = {16, 20, 25};
        for (int kind : others) {
            checks.one(Due.hex(kind) + "d000000000000001", Due.MOST_STREAMS + 1, 0, 0, 0, kind);
        }
    }

    private static void streamBits() {
        checks.one("08 05 aabb", 5, 0, 0, 0, 8, 2);
        checks.one("09 05 aabb", 5, 0, 1, 0, 8, 2);
        checks.one("0a 05 02 aabb", 5, 0, 0, 1, 8, 2);
        checks.one("0b 05 02 aabb", 5, 0, 1, 1, 8, 2);
        checks.one("0c 05 09 aabb", 5, 9, 0, 0, 8, 2);
        checks.one("0d 05 09 aabb", 5, 9, 1, 0, 8, 2);
        checks.one("0e 05 09 02 aabb", 5, 9, 0, 1, 8, 2);
        checks.one("0f 05 09 02 aabb", 5, 9, 1, 1, 8, 2);
        checks.one("10 05", 5, 0, 0, 0, 16);
        checks.one("07 01 aa", 0, 0, 0, 0, 7, 1);
    }

    private static void streamFields() {
        checks.one("0f" + F8 + "00 00", MAX, 0, 1, 1, 8, 0);
        checks.one("0e 00" + F8 + "00", 0, MAX, 0, 1, 8, 0);
        checks.data(checks.one("0f 4005 4009 4003 aabbcc", 5, 9, 1, 1, 8, 3), 0, false, "aabbcc");
        checks.data(checks.one("0b 05 00", 5, 0, 1, 1, 8, 0), 0, false, "");
        checks.one("0a 05 4040" + Due.bytes(64), 5, 0, 0, 1, 8, 64);
        checks.cutAnywhere("0a 4005 4002 aabb");
        checks.cutAnywhere("0b 4005 4002 aabb");
        checks.cutAnywhere("0e 4005 4009 4003 aabbcc");
        checks.cutAnywhere("0f 4005 4009 4003 aabbcc");
        WireCodec x = Due.tape("0a 05 01 aa 01");
        due.is("a frame behind the length", x.frames(0, 2), 2);
        due.is("where it ends", x.frame(0, 8), 4);
    }

    private static void streamToTheEnd() {
        checks.data(checks.one("08 05", 5, 0, 0, 0, 8, 0), 0, false, "");
        checks.data(checks.one("09 05 01", 5, 0, 1, 0, 8, 1), 0, false, "01");
        checks.data(checks.one("0c 05 09 0101", 5, 9, 0, 0, 8, 2), 0, false, "0101");
        checks.data(checks.one("0d 05 09", 5, 9, 1, 0, 8, 0), 0, false, "");
        for (int first = 8; first < 16; first++) {
            checks.wrong(Due.hex(first), 2, CUT);
            checks.wrong(Due.hex(first) + "40", 2, CUT);
        }
        checks.wrong("0c 05", 2, CUT);
        checks.wrong("0d 05 c0000000000000", 2, CUT);
        WireCodec x = Due.tape("08 05");
        Due.fill(x, 65536);
        due.is("up to the end of a full tape", x.frames(0, 2), 1);
        due.is("its data", x.frame(0, 5), 65534);
        due.is("the last of it", x.data(0, 65533, false), 0);
        due.fails("none behind it", Due.NO_SUCH, () -> x.data(0, 65534, false));
        WireCodec y = Due.tape("08 05 aa");
        y.frames(0, 2);
        y.feed(0, 8);
        due.is("the end is that of the reading", y.frame(0, 5), 1);
        due.is("and so it ends", y.frame(0, 8), 3);
        due.fails("bytes fed behind are none of it", Due.NO_SUCH, () -> y.data(0, 1, false));
    }

    private static void offsetAndData() {
        checks.one("06" + F8 + "00", 0, MAX, 0, 0, 6, 0);
        checks.one("06 fffffffffffffffe 01 aa", 0, MAX - 1, 0, 0, 6, 1);
        checks.wrong("06" + F8 + "01 aa", 0, VALUE);
        checks.wrong("06 fffffffffffffffe 02 aabb", 0, VALUE);
        checks.one("06 fffffffffffffffd 02 aabb", 0, MAX - 2, 0, 0, 6, 2);
        checks.one("0e 05" + F8 + "00", 5, MAX, 0, 1, 8, 0);
        checks.one("0e 05 fffffffffffffffe 01 aa", 5, MAX - 1, 0, 1, 8, 1);
        checks.wrong("0e 05" + F8 + "01 aa", 2, VALUE);
        checks.wrong("0f 05 fffffffffffffffe 02 aabb", 2, VALUE);
        checks.one("0c 05" + F8, 5, MAX, 0, 0, 8, 0);
        checks.one("0c 05 fffffffffffffffe aa", 5, MAX - 1, 0, 0, 8, 1);
        checks.wrong("0d 05" + F8 + "aa", 2, VALUE);
        checks.wrong("0c 05 fffffffffffffffe aabb", 2, VALUE);
    }

    private static void ackFirst() {
        checks.ranges(checks.one("02 4064 0c 00 05", 100, 12, 0, 0, 2, 0, 1), 0, 95, 100);
        checks.ranges(checks.one("02 00 00 00 00", 0, 0, 0, 0, 2, 0, 1), 0, 0, 0);
        checks.ranges(checks.one("02 05 00 00 05", 5, 0, 0, 0, 2, 0, 1), 0, 0, 5);
        checks.ranges(checks.one("02 05 00 00 00", 5, 0, 0, 0, 2, 0, 1), 0, 5, 5);
        checks.ranges(checks.one("02" + F8 + F8 + "00" + F8, MAX, MAX, 0, 0, 2, 0, 1), 0, 0, MAX);
        checks.ranges(checks.one("03 05 00 00 05 00 00 00", 5, 0, 0, 0, 3, 0, 1), 0, 0, 5);
        checks.cutAnywhere("02 4064 400c 4000 4005");
    }

    private static void ackFollowing() {
        checks.ranges(checks.one("02 4064 0c 02 05 00 03 08 00", 100, 12, 0, 0, 2, 0, 3), 0, 95, 100, 90, 93, 80, 80);
        checks.ranges(checks.one("02 05 00 01 01 00 00", 5, 0, 0, 0, 2, 0, 2), 0, 4, 5, 2, 2);
        checks.ranges(checks.one("02" + F8 + "00 01 00 fffffffffffffffd 00", MAX, 0, 0, 0, 2, 0, 2), 0, MAX, MAX, 0, 0);
        checks.ranges(checks.one("02" + F8 + "00 01 00 00 fffffffffffffffd", MAX, 0, 0, 0, 2, 0, 2), 0, MAX, MAX, 0, MAX - 2);
        checks.cutAnywhere("02 4064 400c 4002 4005 4000 4003 4009 4000");
        checks.wrong("02 05 00 02 00 00 00 00", 0, CUT);
        checks.wrong("02 05 00 02 00 00 00", 0, CUT);
        checks.wrong("02 05 00" + F8 + "00 00 00", 0, CUT);
        WireCodec x = Due.tape("02 05 00 00 00 01 02 09 00 01 00 00 00");
        due.is("frames", x.frames(0, 0), 3);
        checks.ranges(x, 0, 5, 5);
        checks.ranges(x, 2, 9, 9, 7, 7);
        checks.ranges(x, 1);
    }

    private static void ackBelowZero() {
        checks.one("02 05 00 00 05", 5, 0, 0, 0, 2, 0, 1);
        checks.wrong("02 05 00 00 06", 0, VALUE);
        checks.wrong("02 00 00 00 01", 0, VALUE);
        checks.wrong("02 00 00 00" + F8, 0, VALUE);
        checks.ranges(checks.one("02 05 00 01 01 02 00", 5, 0, 0, 0, 2, 0, 2), 0, 4, 5, 0, 0);
        checks.wrong("02 05 00 01 01 03 00", 0, VALUE);
        checks.wrong("02 05 00 01 01 02 01", 0, VALUE);
        checks.wrong("02 05 00 01 05 00 00", 0, VALUE);
        checks.wrong("02 05 00 01 04 00 00", 0, VALUE);
        checks.ranges(checks.one("02 05 00 01 03 00 00", 5, 0, 0, 0, 2, 0, 2), 0, 2, 5, 0, 0);
        checks.wrong("02 05 00 01 06 00 00", 0, VALUE);
        checks.wrong("02 05 00 02 01 02 00 00 00", 0, VALUE);
        belowZeroDoesNotWrap();
        checks.wrong("03 05 00 00 06 00 00 00", 1, VALUE);
        checks.wrong("03 05 00 01 05 00 00 00 00 00", 1, VALUE);
    }

    /** Ranges so far below 0 that sums of longs come round to what would look right again. */
    private static void belowZeroDoesNotWrap() {
        checks.wrong("02 05 00 02 01" + F8 + F8 + F8 + "00", 0, VALUE);
        checks.wrong("02 05 00 02 05" + F8 + F8 + F8 + F8, 0, VALUE);
        for (int more = 1; more <= 12; more++) {
            checks.wrong("02 05 00" + Due.hex(more) + F8 + (F8 + F8).repeat(more), 0, VALUE);
            checks.wrong("02 05 00" + Due.hex(more) + "00" + (F8 + "00").repeat(more), 0, VALUE);
            checks.wrong("02" + F8 + "00" + Due.hex(more) + F8 + (F8 + F8).repeat(more), 0, VALUE);
        }
    }

    private static void ackCounts() {
        WireCodec x = checks.one("03 0a 01 01 02 03 03 4007 80000008 09", 10, 1, 0, 0, 3, 0, 2, 0, 14, 7, 8, 9);
        checks.ranges(x, 0, 8, 10, 0, 3);
        checks.one("03 00 00 00 00" + F8 + F8 + F8, 0, 0, 0, 0, 3, 0, 1, 0, 0, MAX, MAX, MAX);
        checks.one("03 00 00 00 00 00 00 00", 0, 0, 0, 0, 3, 0, 1);
        checks.cutAnywhere("03 05 00 00 05 4001 4002 4003");
        WireCodec y = Due.tape("02 05 00 00 05 01 01 01");
        due.is("2 has none: three PINGs", y.frames(0, 2), 4);
        due.is("2 has none", y.frame(0, 9), 0);
    }
}
