/** Promise 17: put. */
public final class PutTest {
    private static final Due due = new Due("PutTest");
    private static final long MAX = Due.GREATEST;
    private static final String F8 = "ffffffffffffffff";
    private static final String SECRET = "000102030405060708090a0b0c0d0e0f";

    private static final int[] WITH_A = {4, 5, 8, 16, 17, 18, 19, 20, 21, 22, 23, 24, 25, 28, 29};
    private static final int[] WITH_B = {2, 3, 4, 5, 6, 8, 17, 21, 24, 28};

    public static void main(String[] args) {
        tests(due);
        due.end();
    }

    static void tests(Due d) {
        d.test("Promise 17", "Writes the draft as a frame of a kind behind the tape: how many bytes the tape has.",
                PutTest::behind);
        d.test("Promise 17", "a .. d as in reading", PutTest::asInReading);
        d.test("Promise 17", "PADDING a bytes (1 .. 2000)", PutTest::padding);
        d.test("Promise 17", "STREAM (8 only) with an offset if b is not 0, a length if d is 1, FIN if c is 1",
                PutTest::stream);
        d.test("Promise 17", "ACK: the ranges (a does not count)", PutTest::ack);
        d.test("Promise 17", "NEW NAME: the data's last 16 bytes are the secret.", PutTest::newName);
        d.test("Promise 17", "Throws IllegalArgumentException when there is no such kind", PutTest::noKind);
        d.test("Promise 17", "a field that the kind has is not as reading has it", PutTest::notAsReading);
        d.test("Promise 17", "(a number", PutTest::noNumber);
        d.test("Promise 17", "c and d 0 or 1", PutTest::noBit);
        d.test("Promise 17", "ranges at least one", PutTest::noRange);
        d.test("Promise 17", "data where the kind has some as reading allows", PutTest::dataNotAllowed);
        d.test("Promise 17", "what a kind does not have does not count)", PutTest::doesNotCount);
        d.test("Promise 17", "IllegalStateException when there is no room (then nothing is written).", PutTest::noRoom);
    }

    private static WireCodec drafted(long a, long b, long c, long d, String data) {
        WireCodec x = new WireCodec();
        x.set(0, a);
        x.set(1, b);
        x.set(2, c);
        x.set(3, d);
        Due.add(x, data);
        return x;
    }

    /** An ACK of one range, 5 .. 5. */
    private static WireCodec acked(long b, long count0, long count1, long count2) {
        WireCodec x = drafted(0, b, 0, 0, "");
        x.span(5, 5);
        x.set(9, count0);
        x.set(10, count1);
        x.set(11, count2);
        return x;
    }

    private static void writes(WireCodec x, int kind, String hex) {
        int size = x.size();
        due.is("put(" + kind + ")", x.put(kind), size + hex.replace(" ", "").length() / 2);
        due.tapeIs("put(" + kind + ")", x, size, hex);
    }

    private static void refuses(String why, int kind, Due.Past past) {
        due.refused(why + ", put(" + kind + ")", Due.ARGUMENT, past, x -> x.put(kind));
    }

    private static void refuses(int kind, long a, long b, long c, long d, String data) {
        String why = "a " + a + ", b " + b + ", c " + c + ", d " + d + ", data " + data;
        refuses(why, kind, () -> drafted(a, b, c, d, data));
    }

    private static void behind() {
        WireCodec x = drafted(7, 0, 0, 1, "aabb");
        writes(x, 1, "01");
        writes(x, 16, "10 07");
        writes(x, 16, "10 07");
        writes(x, 8, "0a 07 02 aabb");
        due.is("the draft stays", x.add(1, 1), 3);
        WireCodec y = Pasts.framesRead(0);
        int size = y.size();
        due.is("how many bytes the tape has", y.put(7), size + 5);
        due.tapeIs("behind it", y, size, "07 03 ddeeff");
        due.is("what was read stays", y.frame(2, 4), 3);
        due.is("the fault stays", y.fault(false), 2);
    }

    private static void asInReading() {
        writes(drafted(64, 16384, 1073741824, 0, ""), 4, "04 4040 80004000 c000000040000000");
        writes(drafted(MAX, 63, 0, 0, ""), 5, "05" + F8 + "3f");
        writes(drafted(0, 9, 0, 0, "aabb"), 6, "06 09 02 aabb");
        writes(drafted(0, 0, 0, 0, "aabb"), 7, "07 02 aabb");
        writes(drafted(7, 8, 0, 0, ""), 17, "11 07 08");
        writes(drafted(7, 8, 0, 0, ""), 21, "15 07 08");
        int[] onlyA = {16, 18, 19, 20, 22, 23, 25};
        for (int kind : onlyA) {
            writes(drafted(0, 0, 0, 0, ""), kind, Due.hex(kind) + "00");
            writes(drafted(7, 0, 0, 0, ""), kind, Due.hex(kind) + "07");
            writes(drafted(Due.MOST_STREAMS, 0, 0, 0, ""), kind, Due.hex(kind) + "d000000000000000");
        }
        writes(drafted(-2, 0, 0, 0, ""), 26, "1a fffffffffffffffe");
        writes(drafted(Long.MIN_VALUE, 0, 0, 0, ""), 27, "1b 8000000000000000");
        writes(drafted(Long.MAX_VALUE, 0, 0, 0, ""), 27, "1b 7fffffffffffffff");
        writes(drafted(1, 2, 0, 0, "aabb"), 28, "1c 01 02 02 aabb");
        writes(drafted(1, MAX, 0, 0, ""), 28, "1c 01" + F8 + "00");
        writes(drafted(1, 0, 0, 0, "aabb"), 29, "1d 01 02 aabb");
        writes(drafted(0, 0, 0, 0, ""), 1, "01");
        writes(drafted(0, 0, 0, 0, ""), 30, "1e");
        everyKindIsReadAgain();
    }

    private static void everyKindIsReadAgain() {
        for (int kind = 0; kind <= 30; kind++) {
            if (kind > 8 && kind < 16) {
                continue;
            }
            WireCodec x = drafted(7, 6, 1, 1, Due.bytes(18));
            x.span(5, 7);
            x.set(9, 3);
            due.is("put(" + kind + ")", x.put(kind), x.size());
            due.is("one frame", x.frames(0, 2), 1);
            due.is("its kind", x.frame(0, 4), kind);
            due.is("all of it", x.frame(0, 8), x.size());
            if (kind != 1 && kind != 6 && kind != 7 && kind != 30) {
                due.is("its a", x.frame(0, 0), 7);
            }
        }
    }

    private static void padding() {
        writes(drafted(1, 0, 0, 0, ""), 0, "00");
        writes(drafted(5, 0, 0, 0, ""), 0, "0000000000");
        WireCodec x = drafted(2000, 0, 0, 0, "");
        due.is("2000", x.put(0), 2000);
        due.is("one frame", x.frames(0, 0), 1);
        due.is("its a", x.frame(0, 0), 2000);
        long[] none = {0, -1, 2001, 4294967297L, Long.MIN_VALUE, Long.MAX_VALUE};
        for (long a : none) {
            refuses(0, a, 0, 0, 0, "");
        }
    }

    private static void stream() {
        writes(drafted(5, 0, 0, 0, "aabb"), 8, "08 05 aabb");
        writes(drafted(5, 0, 1, 0, "aabb"), 8, "09 05 aabb");
        writes(drafted(5, 0, 0, 1, "aabb"), 8, "0a 05 02 aabb");
        writes(drafted(5, 0, 1, 1, ""), 8, "0b 05 00");
        writes(drafted(5, 1, 0, 0, "aabb"), 8, "0c 05 01 aabb");
        writes(drafted(5, 9, 1, 0, ""), 8, "0d 05 09");
        writes(drafted(5, 9, 0, 1, "aabb"), 8, "0e 05 09 02 aabb");
        writes(drafted(5, 64, 1, 1, "aabb"), 8, "0f 05 4040 02 aabb");
        writes(drafted(5, MAX, 0, 0, ""), 8, "0c 05" + F8);
        writes(drafted(5, 0, 0, 0, ""), 8, "08 05");
        for (int kind = 9; kind < 16; kind++) {
            refuses(kind, 5, 9, 1, 1, "aa");
        }
    }

    private static void ack() {
        WireCodec x = drafted(-1, 12, 0, 0, "");
        x.set(9, 7);
        x.set(10, 64);
        x.set(11, 9);
        x.span(95, 100);
        x.span(90, 93);
        x.span(80, 80);
        writes(x, 2, "02 4064 0c 02 05 00 03 08 00");
        writes(x, 3, "03 4064 0c 02 05 00 03 08 00 07 4040 09");
        due.is("both are read", x.frames(0, 0), 2);
        due.is("the greatest of all", x.frame(0, 0), 100);
        due.is("the least of the last", x.range(1, 2, false), 80);
        x.set(0, 5);
        x.clear();
        writes(x, 2, "02 4064 0c 02 05 00 03 08 00");
        WireCodec y = acked(64, 0, 0, 0);
        writes(y, 2, "02 05 4040 00 00");
        manyRanges();
    }

    private static void manyRanges() {
        WireCodec x = new WireCodec();
        for (int k = 0; k < 500; k++) {
            long high = MAX - k * 8000000000000000L;
            x.span(high - 3000000000000000L, high);
        }
        due.is("put", x.put(2), 1 + 8 + 1 + 2 + 8 + 499 * 16);
        due.is("frames", x.frames(0, 0), 1);
        due.is("ranges", x.frame(0, 6), 500);
        due.is("least", x.range(0, 499, false), MAX - 499 * 8000000000000000L - 3000000000000000L);
        due.is("greatest", x.range(0, 499, true), MAX - 499 * 8000000000000000L);
    }

    private static void newName() {
        writes(drafted(5, 5, 0, 0, "aabb" + SECRET), 24, "18 05 05 02 aabb" + SECRET);
        writes(drafted(5, 0, 0, 0, "aa" + SECRET), 24, "18 05 00 01 aa" + SECRET);
        writes(drafted(5, 0, 0, 0, Due.bytes(20) + SECRET), 24, "18 05 00 14" + Due.bytes(20) + SECRET);
        WireCodec x = drafted(0, 0, 0, 0, "aabb" + SECRET);
        x.put(24);
        due.is("frames", x.frames(0, 2), 1);
        due.is("its name", x.frame(0, 5), 2);
        due.is("the first of the secret", x.data(0, 0, true), 0);
        due.is("the last of the secret", x.data(0, 15, true), 15);
    }

    private static void noKind() {
        int[] none = {-1, 9, 15, 31, 32, 64, 255, 256, 257, Integer.MIN_VALUE, Integer.MAX_VALUE};
        for (int kind : none) {
            refuses("no such kind", kind, () -> drafted(1, 1, 1, 1, "aa"));
            due.refused("no such kind, put(" + kind + ")", Due.ARGUMENT, x -> x.put(kind));
        }
        due.is("the last kind", new WireCodec().put(30), 1);
        due.is("the first kind", drafted(1, 0, 0, 0, "").put(0), 1);
    }

    private static void notAsReading() {
        int[] ofStreams = {18, 19, 22, 23};
        for (int kind : ofStreams) {
            due.is("the most streams", drafted(Due.MOST_STREAMS, 0, 0, 0, "").put(kind), 9);
            refuses(kind, Due.MOST_STREAMS + 1, 0, 0, 0, "");
            refuses(kind, MAX, 0, 0, 0, "");
        }
        int[] others = {16, 20, 25};
        for (int kind : others) {
            due.is("no streams", drafted(MAX, 0, 0, 0, "").put(kind), 9);
        }
        due.is("b as a", drafted(5, 5, 0, 0, "aa" + SECRET).put(24), 21);
        refuses(24, 5, 6, 0, 0, "aa" + SECRET);
        refuses(24, 0, 1, 0, 0, "aa" + SECRET);
        due.is("b and no data", drafted(0, MAX, 0, 0, "").put(6), 10);
        due.is("b and data", drafted(0, MAX - 1, 0, 0, "aa").put(6), 11);
        refuses(6, 0, MAX, 0, 0, "aa");
        refuses(6, 0, MAX - 1, 0, 0, "aabb");
        for (int d = 0; d <= 1; d++) {
            due.is("b and no data", drafted(5, MAX, 0, d, "").put(8), 10 + d);
            due.is("b and data", drafted(5, MAX - 1, 0, d, "aa").put(8), 11 + d);
            refuses(8, 5, MAX, 0, d, "aa");
            refuses(8, 5, MAX - 1, 0, d, "aabb");
        }
    }

    private static void noNumber() {
        long[] none = {-1, MAX + 1, Long.MIN_VALUE, Long.MAX_VALUE};
        for (long v : none) {
            for (int kind : WITH_A) {
                refuses(kind, v, 0, 0, 0, "aa" + SECRET);
            }
            for (int kind : WITH_B) {
                refuses("b " + v, kind, () -> {
                    WireCodec x = drafted(MAX, v, 0, 0, "aa" + SECRET);
                    x.span(5, 5);
                    return x;
                });
            }
            refuses(4, 0, 0, v, 0, "");
            refuses("count 9", 3, () -> acked(0, v, 0, 0));
            refuses("count 10", 3, () -> acked(0, 0, v, 0));
            refuses("count 11", 3, () -> acked(0, 0, 0, v));
        }
        refuses("a range above all numbers", 2, () -> spanned(5, MAX + 1));
        refuses("a range above all numbers", 3, () -> spanned(MAX + 1, MAX + 1));
        refuses("a range above all numbers", 2, () -> spanned(0, Long.MAX_VALUE));
        due.is("the greatest range", spanned(MAX, MAX).put(2), 12);
        due.is("the greatest numbers", drafted(MAX, MAX, MAX, 0, "").put(4), 25);
        due.is("the greatest counts", acked(MAX, MAX, MAX, MAX).put(3), 36);
    }

    private static WireCodec spanned(long low, long high) {
        WireCodec x = new WireCodec();
        x.span(low, high);
        return x;
    }

    private static void noBit() {
        long[] none = {2, -1, 3, Long.MIN_VALUE, Long.MAX_VALUE, 4294967296L, 4294967297L};
        for (long v : none) {
            refuses(8, 0, 0, v, 0, "");
            refuses(8, 0, 0, 0, v, "");
        }
        due.is("0 and 0", drafted(0, 0, 0, 0, "").put(8), 2);
        due.is("1 and 1", drafted(0, 0, 1, 1, "").put(8), 3);
    }

    private static void noRange() {
        refuses("no range", 2, () -> drafted(5, 0, 0, 0, ""));
        refuses("no range", 3, () -> drafted(5, 0, 0, 0, ""));
        due.is("one range", acked(0, 0, 0, 0).put(2), 5);
        due.is("one range", acked(0, 0, 0, 0).put(3), 8);
    }

    private static void dataNotAllowed() {
        refuses(7, 0, 0, 0, 0, "");
        due.is("a token of one", drafted(0, 0, 0, 0, "aa").put(7), 3);
        refuses(24, 5, 5, 0, 0, "");
        refuses(24, 5, 5, 0, 0, Due.bytes(2));
        refuses(24, 5, 5, 0, 0, Due.bytes(15));
        refuses(24, 5, 5, 0, 0, Due.bytes(16));
        due.is("a name of 1", drafted(5, 5, 0, 0, Due.bytes(17)).put(24), 3 + 1 + 17);
        due.is("a name of 20", drafted(5, 5, 0, 0, Due.bytes(36)).put(24), 3 + 1 + 36);
        refuses(24, 5, 5, 0, 0, Due.bytes(37));
        refuses(24, 5, 5, 0, 0, Due.bytes(272));
        refuses(24, 5, 5, 0, 0, Due.bytes(2000));
        int[] any = {6, 28, 29};
        for (int kind : any) {
            due.is("no data", drafted(0, 0, 0, 0, "").put(kind), kind == 28 ? 4 : 3);
            due.is("all data", drafted(0, 0, 0, 0, Due.bytes(2000)).put(kind), 2000 + (kind == 28 ? 5 : 4));
        }
        due.is("all data in a token", drafted(0, 0, 0, 0, Due.bytes(2000)).put(7), 2003);
        due.is("all data in a stream", drafted(0, 0, 0, 0, Due.bytes(2000)).put(8), 2002);
        due.is("all data in a stream with a length", drafted(0, 0, 0, 1, Due.bytes(2000)).put(8), 2004);
    }

    private static void doesNotCount() {
        writes(drafted(-1, -1, -1, -1, "aa"), 1, "01");
        writes(drafted(-1, -1, -1, -1, "aa"), 30, "1e");
        writes(drafted(1, -1, -1, -1, "aa"), 0, "00");
        writes(drafted(7, 8, 9, -1, "aa"), 4, "04 07 08 09");
        writes(drafted(7, 8, -1, -1, "aa"), 5, "05 07 08");
        writes(drafted(-1, 9, -1, -1, "aabb"), 6, "06 09 02 aabb");
        writes(drafted(-1, -1, -1, -1, "aabb"), 7, "07 02 aabb");
        int[] onlyA = {16, 18, 19, 20, 22, 23, 25};
        for (int kind : onlyA) {
            writes(drafted(7, -1, -1, -1, "aa"), kind, Due.hex(kind) + "07");
        }
        writes(drafted(7, 8, -1, -1, "aa"), 17, "11 07 08");
        writes(drafted(7, 8, -1, -1, "aa"), 21, "15 07 08");
        writes(drafted(5, 5, -1, -1, "aa" + SECRET), 24, "18 05 05 01 aa" + SECRET);
        writes(drafted(5, -1, 2, 2, "aa"), 26, "1a 0000000000000005");
        writes(drafted(5, -1, 2, 2, "aa"), 27, "1b 0000000000000005");
        writes(drafted(1, 2, -1, -1, "aa"), 28, "1c 01 02 01 aa");
        writes(drafted(1, -1, -1, -1, "aa"), 29, "1d 01 01 aa");
        WireCodec x = drafted(-1, 0, -1, -1, "aa");
        x.span(5, 5);
        x.set(9, -1);
        x.set(10, MAX + 1);
        x.set(11, Long.MIN_VALUE);
        writes(x, 2, "02 05 00 00 00");
        x.set(0, 7);
        writes(x, 16, "10 07");
        x.set(2, 0);
        x.set(3, 0);
        writes(x, 8, "08 07 aa");
        WireCodec y = drafted(-1, 0, -1, -1, "aa");
        y.span(5, 5);
        writes(y, 3, "03 05 00 00 00 00 00 00");
        WireCodec beyond = drafted(7, 0, 0, 0, "");
        beyond.span(0, Long.MAX_VALUE);
        writes(beyond, 16, "10 07");
    }

    private static void noRoom() {
        int[] kinds = {0, 1, 2, 3, 4, 5, 6, 7, 8, 16, 17, 18, 19, 20, 21, 22, 23, 25, 26, 27, 28, 29, 30};
        for (int kind : kinds) {
            WireCodec x = Pasts.framesRead(0);
            int before = x.size();
            int bytes = x.put(kind) - before;
            due.is("the last room for put(" + kind + ")", Pasts.framesRead(65536 - bytes).put(kind), 65536);
            due.refused("one byte too many, put(" + kind + ")", Due.STATE, () -> Pasts.framesRead(65537 - bytes),
                    y -> y.put(kind));
            due.refused("a full tape, put(" + kind + ")", Due.STATE, () -> Pasts.datagramRead(65536), y -> y.put(kind));
        }
        WireCodec name = Due.filled(65536 - 36);
        Due.add(name, Due.bytes(33));
        due.fails("a name", Due.STATE, () -> name.put(24));
        due.is("nothing is written", name.size(), 65500);
        name.clear();
        due.is("it is written where there is room", name.put(24), 37);
        WireCodec y = Due.filled(65530);
        Due.add(y, "aabbccdd");
        due.fails("7 in 6", Due.STATE, () -> y.put(29));
        due.fails("nothing is written", Due.NO_SUCH, () -> y.at(65530));
        due.is("6 in 6", y.put(7), 65536);
        due.tapeIs("6 in 6", y, 65530, "07 04 aabbccdd");
        WireCodec large = Due.filled(63537);
        large.set(0, 2000);
        due.fails("2000 bytes in 1999", Due.STATE, () -> large.put(0));
        large.set(0, 1999);
        due.is("1999 in 1999", large.put(0), 65536);
    }
}
