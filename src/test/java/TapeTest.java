/** The tape and its numbers: 'What it is', the first of the 'Terms', and promises 1 to 7. */
public final class TapeTest {
    private static final Due due = new Due("TapeTest");
    private static final int[] NO_WORD = {0, 9, -1, 16, 257, Integer.MIN_VALUE, Integer.MAX_VALUE};

    public static void main(String[] args) {
        tests(due);
        due.end();
    }

    static void tests(Due d) {
        d.test("Promise 1, What it is",
                "An object is used for at most 512 calls after it has been made; what later calls answer is free.",
                TapeTest::the512thCall);
        terms(d);
        d.test("Promise 1", "An empty tape and draft, nothing read.", TapeTest::newObject);
        d.test("Promise 2", "Puts the lowest n bytes of v, highest first, behind the tape: how many it has.",
                TapeTest::feed);
        d.test("Promise 2", "Throws IllegalArgumentException when n is not 1 .. 8", TapeTest::feedNoWord);
        d.test("Promise 2", "IllegalStateException when there is no room.", TapeTest::feedNoRoom);
        d.test("Promise 3", "Puts a number in n bytes (0: the fewest): how many bytes the tape has.", TapeTest::number);
        d.test("Promise 3", "Throws IllegalArgumentException when v is no number", TapeTest::numberNone);
        d.test("Promise 3", "n is not 0, 1, 2, 4, 8", TapeTest::numberNoSize);
        d.test("Promise 3", "or it does not fit", TapeTest::numberDoesNotFit);
        d.test("Promise 3", "IllegalStateException when there is no room.", TapeTest::numberNoRoom);
        d.test("Promise 4", "The tape is empty", TapeTest::clearEmpties);
        d.test("Promise 4", "what was read is not there any more (fault() and parameter() as before any reading).",
                TapeTest::clearForgets);
        d.test("Promise 4", "How many bytes it had.", TapeTest::clearTells);
        d.test("Promise 5", "How many bytes the tape has.", TapeTest::size);
        d.test("Promise 6", "Byte i of the tape, 0 .. 255.", TapeTest::at);
        d.test("Promise 6", "Throws NoSuchElementException when there is none.", TapeTest::atNone);
        d.test("Promise 7", "The number at a place", TapeTest::read);
        d.test("Promise 7", "-1 when it is not all there.", TapeTest::readNotAll);
        d.test("Promise 7", "Throws NoSuchElementException when there is no such place (0 .. size - 1).",
                TapeTest::readNoPlace);
    }

    private static void terms(Due d) {
        d.test("Promises 2, 8, Terms", "What is read comes from a TAPE of bytes, what is written goes behind it.",
                TapeTest::behind);
        d.test("Promises 2, 3, 17, 21, Terms", "THE TAPE has at most 65536 bytes.", TapeTest::tapeMost);
        d.test("Promises 8, 12, 19, Terms",
                "All memory is the class's own: the tape, and tables of at most as many places.", TapeTest::tables);
        d.test("Promises 2, 3, 15, 16, 17, 21, Terms", "Of several exceptions the first one told is thrown.",
                TapeTest::firstTold);
        d.test("Promise 7, Terms",
                "A NUMBER (0 .. 4611686018427387903) has 1, 2, 4 or 8 bytes: the two highest bits of the first one"
                + " are 0, 1, 2, 3 for that; all the others are its bits, highest first.", TapeTest::numbers);
        d.test("Promises 7, 8, 18, 24, Terms", "It may have more bytes than it needs", TapeTest::longNumbers);
        d.test("Promises 17, 21, Terms", "what is written has the fewest, where nothing else is said.",
                TapeTest::fewestBytes);
        d.test("Promises 2, 8, 18, Terms", "n BYTES as a word: the highest first.", TapeTest::words);
    }

    private static void the512thCall() {
        WireCodec x = new WireCodec();
        for (int k = 0; k < 511; k++) {
            x.feed(k, 8);
        }
        due.is("size() as the 512th call", x.size(), 511 * 8);
        WireCodec y = new WireCodec();
        for (int k = 0; k < 511; k++) {
            y.feed(k, 8);
        }
        due.is("feed as the 512th call", y.feed(1, 8), 512 * 8);
        WireCodec z = new WireCodec();
        for (int k = 0; k < 510; k++) {
            z.feed(0x0101010101010101L, 8);
        }
        due.is("frames as the 511th call", z.frames(0, 0), 4080);
        due.is("frame as the 512th call", z.frame(4079, 8), 4080);
    }

    private static void behind() {
        WireCodec x = new WireCodec();
        due.is("feed", x.feed(0xaabb, 2), 2);
        due.is("number", x.number(64, 0), 4);
        x.set(0, 7);
        due.is("put", x.put(16), 6);
        due.is("lead", x.lead(4, 1, 0, 0, 0), 7);
        due.is("feed", x.feed(0xcc, 1), 8);
        due.tapeIs("one behind the other", x, 0, "aabb 4040 1007 41 cc");
        due.is("read from the tape", x.frames(4, 2), 1);
        due.is("its a", x.frame(0, 0), 7);
    }

    private static void tapeMost() {
        due.is("feed fills it", Due.filled(65528).feed(1, 8), 65536);
        due.fails("feed one too many", Due.STATE, () -> Due.filled(65529).feed(1, 8));
        due.is("number fills it", Due.filled(65532).number(0, 4), 65536);
        due.fails("number one too many", Due.STATE, () -> Due.filled(65533).number(0, 4));
        due.is("put fills it", Due.filled(65535).put(1), 65536);
        due.fails("put one too many", Due.STATE, () -> Due.filled(65536).put(1));
        due.is("lead fills it", Due.filled(65526).lead(0, 0, 0, 0, 20), 65536);
        due.fails("lead one too many", Due.STATE, () -> Due.filled(65527).lead(0, 0, 0, 0, 20));
        WireCodec x = Due.filled(65535);
        x.feed(0x77, 1);
        due.is("its last byte", x.at(65535), 0x77);
        due.is("all of it is read", x.frames(0, 2), 1);
        due.is("up to the byte that is no kind", x.frame(0, 0), 65535);
    }

    private static void tables() {
        mostFrames();
        mostRanges();
        mostPackets();
    }

    /** CRYPTO frames whose data is PINGs and ends with the begin of a RESET, which swallows the next one's header. */
    private static void mostFrames() {
        WireCodec x = new WireCodec();
        for (int k = 0; k < 249; k++) {
            x.add(0x0101010101010101L, 8);
        }
        x.add(0x0101010101010104L, 8);
        for (int k = 0; k < 32; k++) {
            x.put(6);
        }
        due.is("frames", x.frames(4, 2), 32 * 1999 + 31);
        due.is("the last of many frames", x.frame(63998, 8), x.size() - 1);
        due.is("its kind", x.frame(63998, 4), 1);
        due.is("one in the middle", x.frame(40000, 7), 40000 + 4 + 4 * (40000 / 2000));
        due.fails("one more", Due.NO_SUCH, () -> x.frame(63999, 8));
        due.is("the fault behind them", x.fault(true), x.size() - 1);
    }

    /** An ACK to whose end the tape is full of 0: each two of them are a GAP and a SIZE. */
    private static WireCodec ack(long largest, long more) {
        WireCodec x = Due.tape("02");
        x.number(largest, 4);
        x.number(0, 1);
        x.number(more, 4);
        x.number(0, 1);
        Due.fill(x, 65536);
        return x;
    }

    private static void mostRanges() {
        WireCodec x = ack(65524, 32762);
        due.is("an ACK, and the byte behind it", x.frames(0, 0), 2);
        due.is("ranges", x.frame(0, 6), 32763);
        due.is("least of the last", x.range(0, 32762, false), 0);
        due.is("greatest of the one ahead", x.range(0, 32761, true), 2);
        due.fails("one more", Due.NO_SUCH, () -> x.range(0, 32763, false));
        WireCodec below = ack(65523, 32762);
        due.is("the last is below 0", below.frames(0, 0), 0);
        due.is("VALUE", below.fault(false), 3);
        WireCodec more = ack(65536, 32763);
        due.is("more than there are bytes for", more.frames(0, 0), 0);
        due.is("CUT", more.fault(false), 1);
    }

    /** STREAMs full of packets, the last of which takes the next STREAM's two bytes in. */
    private static void mostPackets() {
        WireCodec x = new WireCodec();
        Due.add(x, ("e0 00000001 00 00 14" + Due.bytes(20)).repeat(70) + "e0 00000001 00 00 22" + Due.bytes(32));
        for (int k = 0; k < 32; k++) {
            x.put(8);
        }
        x.feed(0, 2);
        due.is("packets", x.datagram(2, 0), 32 * 71);
        due.is("the last of many", x.packet(2271, 5), x.size());
        due.is("one in the middle", x.packet(1420, 3), 2 + 20 * 2002);
        due.fails("one more", Due.NO_SUCH, () -> x.packet(2272, 5));
    }

    private static void firstTold() {
        Due.Past full = () -> Pasts.framesRead(65536);
        due.refused("feed, no word and no room", Due.ARGUMENT, full, x -> x.feed(1, 9));
        due.refused("number, no number and no room", Due.ARGUMENT, full, x -> x.number(-1, 0));
        due.refused("number, no size and no room", Due.ARGUMENT, full, x -> x.number(1, 3));
        due.refused("number, does not fit and no room", Due.ARGUMENT, full, x -> x.number(64, 1));
        due.refused("put, no kind and no room", Due.ARGUMENT, full, x -> x.put(31));
        due.refused("put, no frame and no room", Due.ARGUMENT, full, x -> x.put(24));
        due.refused("lead, no kind and no room", Due.ARGUMENT, full, x -> x.lead(1, 0, 1, 2, 20));
        due.refused("lead, no length and no room", Due.ARGUMENT, full, x -> x.lead(0, 0, 1, 2, 19));
        WireCodec data = new WireCodec();
        for (int k = 0; k < 250; k++) {
            data.add(k, 8);
        }
        due.fails("add, no word and too much", Due.ARGUMENT, () -> data.add(1, 9));
        WireCodec ranges = new WireCodec();
        for (int k = 0; k < 500; k++) {
            ranges.span(2000 - 2 * k, 2000 - 2 * k);
        }
        due.fails("span, no range and too many", Due.ARGUMENT, () -> ranges.span(6, 5));
        due.fails("span, not below and too many", Due.ARGUMENT, () -> ranges.span(1001, 1001));
    }

    private static void numbers() {
        due.is("least of 1", Due.tape("00").read(0), 0);
        due.is("greatest of 1", Due.tape("3f").read(0), 63);
        due.is("least of 2", Due.tape("4000").read(0), 0);
        due.is("greatest of 2", Due.tape("7fff").read(0), 16383);
        due.is("least of 4", Due.tape("80000000").read(0), 0);
        due.is("greatest of 4", Due.tape("bfffffff").read(0), 1073741823);
        due.is("least of 8", Due.tape("c000000000000000").read(0), 0);
        due.is("greatest of 8", Due.tape("ffffffffffffffff").read(0), Due.GREATEST);
        due.is("highest first in 2", Due.tape("4102").read(0), 0x0102);
        due.is("highest first in 4", Due.tape("81020304").read(0), 0x01020304);
        due.is("highest first in 8", Due.tape("c102030405060708").read(0), 0x0102030405060708L);
        due.is("high bits in 8", Due.tape("fefdfcfbfaf9f8f7").read(0), 0x3efdfcfbfaf9f8f7L);
    }

    private static void longNumbers() {
        due.is("37 in 1", Due.tape("25").read(0), 37);
        due.is("37 in 2", Due.tape("4025").read(0), 37);
        due.is("37 in 4", Due.tape("80000025").read(0), 37);
        due.is("37 in 8", Due.tape("c000000000000025").read(0), 37);
        WireCodec x = Due.tape("10 c000000000000005 06 4001 c000000000000002 aabb 01");
        due.is("frames", x.frames(0, 2), 3);
        due.is("a in 8", x.frame(0, 0), 5);
        due.is("b in 2", x.frame(1, 1), 1);
        due.is("data, told in 8", x.frame(1, 5), 2);
        due.is("where it ends", x.frame(1, 8), 22);
        due.is("LENGTH in 8", Due.tape("e0 00000001 00 00 c000000000000014" + Due.bytes(20)).head(0, 0), 15);
        due.is("an id in 2, data told in 4", Due.tape("4004 80000001 05").parameters(0, false), 1);
    }

    private static void fewestBytes() {
        long[] most = {63, 16383, 1073741823};
        String[] mostAs = {"3f", "7fff", "bfffffff"};
        String[] nextAs = {"4040", "80004000", "c000000040000000"};
        for (int k = 0; k < 3; k++) {
            WireCodec x = new WireCodec();
            x.set(0, most[k]);
            x.put(16);
            due.tapeIs("put of " + most[k], x, 0, "10" + mostAs[k]);
            x.clear();
            x.set(0, most[k] + 1);
            x.put(16);
            due.tapeIs("put of one more", x, 0, "10" + nextAs[k]);
        }
        WireCodec y = new WireCodec();
        Due.add(y, Due.bytes(63));
        y.put(7);
        due.tapeIs("data of 63", y, 0, "07 3f" + Due.bytes(63));
        y.clear();
        y.add(0xab, 1);
        y.put(7);
        due.tapeIs("data of 64", y, 0, "07 4040" + Due.bytes(64));
        y.clear();
        y.lead(0, 0, 1, 0, 20);
        due.tapeIs("a token of 63, and LENGTH in the two that are said", y, 0,
                "c0 00000001 01 ab 00 3f" + Due.bytes(63) + "4014");
        y.clear();
        y.lead(0, 0, 0, 0, 20);
        due.tapeIs("a token of 64", y, 0, "c0 00000001 00 00 4040" + Due.bytes(64) + "4014");
    }

    private static void words() {
        WireCodec x = new WireCodec();
        x.feed(0x0102030405060708L, 8);
        due.tapeIs("feed", x, 0, "01 02 03 04 05 06 07 08");
        WireCodec y = Due.tape("1a 0102030405060708");
        y.frames(0, 2);
        due.is("x(8)", y.frame(0, 0), 0x0102030405060708L);
        WireCodec z = Due.tape("e0 01000000 00 00 14" + Due.bytes(20));
        z.head(0, 0);
        due.is("x(4) of another version", z.fault(false), 3);
    }

    private static void newObject() {
        WireCodec x = new WireCodec();
        due.is("size()", x.size(), 0);
        due.fails("at(0)", Due.NO_SUCH, () -> x.at(0));
        due.fails("read(0)", Due.NO_SUCH, () -> x.read(0));
        due.is("fault(false)", x.fault(false), 0);
        due.is("fault(true)", x.fault(true), -1);
        due.fails("frame(0, 0)", Due.NO_SUCH, () -> x.frame(0, 0));
        due.fails("data(0, 0, false)", Due.NO_SUCH, () -> x.data(0, 0, false));
        due.fails("range(0, 0, false)", Due.NO_SUCH, () -> x.range(0, 0, false));
        due.fails("packet(0, 0)", Due.NO_SUCH, () -> x.packet(0, 0));
        for (int id = 0; id <= 16; id++) {
            due.is("parameter(" + id + ")", x.parameter(id), ParametersTest.ABSENT[id]);
        }
        due.fails("put(0): a is 0", Due.ARGUMENT, () -> x.put(0));
        due.fails("put(2): no ranges", Due.ARGUMENT, () -> x.put(2));
        due.fails("put(7): no data", Due.ARGUMENT, () -> x.put(7));
        due.is("put(4)", x.put(4), 4);
        due.is("put(8)", x.put(8), 6);
        x.span(9, 9);
        due.is("put(3)", x.put(3), 14);
        due.tapeIs("all fields 0", x, 0, "04 00 00 00 08 00 03 09 00 00 00 00 00 00");
        WireCodec y = new WireCodec();
        due.is("frames of nothing", y.frames(0, 0), 0);
        due.is("clear of nothing", y.clear(), 0);
        due.is("each object has its own tape", x.size(), 14);
    }

    private static void feed() {
        WireCodec x = new WireCodec();
        for (int n = 1; n <= 8; n++) {
            due.is("feed(.., " + n + ")", x.feed(0xf1f2f3f4f5f6f7f8L, n), n * (n + 1) / 2);
        }
        due.tapeIs("the lowest n bytes", x, 0, "f8 f7f8 f6f7f8 f5f6f7f8 f4f5f6f7f8 f3f4f5f6f7f8 f2f3f4f5f6f7f8"
                + "f1f2f3f4f5f6f7f8");
        WireCodec y = new WireCodec();
        y.feed(0x1ff, 1);
        y.feed(-2, 8);
        y.feed(0, 1);
        y.feed(Long.MIN_VALUE, 8);
        due.tapeIs("any long", y, 0, "ff fffffffffffffffe 00 8000000000000000");
        WireCodec z = Pasts.framesRead(0);
        int size = z.size();
        due.is("how many it has", z.feed(0x0101, 2), size + 2);
        due.is("what was read stays", z.frame(0, 0), 5);
        due.is("the fault stays", z.fault(false), 2);
    }

    private static void feedNoWord() {
        for (int n : NO_WORD) {
            due.refused("feed(1, " + n + ")", Due.ARGUMENT, x -> x.feed(1, n));
        }
        due.is("feed(1, 1)", new WireCodec().feed(1, 1), 1);
        due.is("feed(1, 8)", new WireCodec().feed(1, 8), 8);
    }

    private static void feedNoRoom() {
        for (int n = 1; n <= 8; n++) {
            int bytes = n;
            due.is("the last room", Pasts.framesRead(65536 - n).feed(-1, n), 65536);
            due.refused("one byte too many", Due.STATE, () -> Pasts.framesRead(65537 - bytes), x -> x.feed(-1, bytes));
            due.refused("a full tape", Due.STATE, () -> Pasts.datagramRead(65536), x -> x.feed(-1, bytes));
        }
        WireCodec y = Due.filled(65533);
        due.fails("4 in 3", Due.STATE, () -> y.feed(-1, 4));
        due.fails("nothing of it is there", Due.NO_SUCH, () -> y.at(65533));
        due.is("3 in 3", y.feed(0x010203, 3), 65536);
        due.is("the last one", y.at(65535), 3);
    }

    private static void number() {
        WireCodec x = new WireCodec();
        due.is("number(37, 0)", x.number(37, 0), 1);
        due.is("number(37, 1)", x.number(37, 1), 2);
        due.is("number(37, 2)", x.number(37, 2), 4);
        due.is("number(37, 4)", x.number(37, 4), 8);
        due.is("number(37, 8)", x.number(37, 8), 16);
        due.tapeIs("number", x, 0, "25 25 4025 80000025 c000000000000025");
        long[] edges = {0, 63, 64, 16383, 16384, 1073741823, 1073741824, Due.GREATEST};
        int[] fewest = {1, 1, 2, 2, 4, 4, 8, 8};
        String[] as = {"00", "3f", "4040", "7fff", "80004000", "bfffffff", "c000000040000000", "ffffffffffffffff"};
        for (int k = 0; k < edges.length; k++) {
            WireCodec y = new WireCodec();
            due.is("number(" + edges[k] + ", 0)", y.number(edges[k], 0), fewest[k]);
            due.tapeIs("number(" + edges[k] + ", 0)", y, 0, as[k]);
            due.is("read", y.read(0), edges[k]);
        }
    }

    private static void numberNone() {
        long[] none = {-1, Due.GREATEST + 1, Long.MIN_VALUE, Long.MAX_VALUE, -Due.GREATEST};
        int[] sizes = {0, 1, 2, 4, 8};
        for (long v : none) {
            for (int n : sizes) {
                due.refused("number(" + v + ", " + n + ")", Due.ARGUMENT, x -> x.number(v, n));
            }
        }
        due.is("the least", new WireCodec().number(0, 8), 8);
        due.is("the greatest", new WireCodec().number(Due.GREATEST, 8), 8);
    }

    private static void numberNoSize() {
        int[] none = {-1, 3, 5, 6, 7, 9, 16, Integer.MIN_VALUE, Integer.MAX_VALUE};
        for (int n : none) {
            due.refused("number(1, " + n + ")", Due.ARGUMENT, x -> x.number(1, n));
        }
    }

    private static void numberDoesNotFit() {
        int[] sizes = {1, 2, 4};
        long[] most = {63, 16383, 1073741823};
        for (int k = 0; k < 3; k++) {
            int n = sizes[k];
            long above = most[k] + 1;
            WireCodec y = new WireCodec();
            due.is("the most in " + n, y.number(most[k], n), n);
            due.is("read", y.read(0), most[k]);
            due.refused("number(" + above + ", " + n + ")", Due.ARGUMENT, x -> x.number(above, n));
            due.refused("the greatest in " + n, Due.ARGUMENT, x -> x.number(Due.GREATEST, n));
            due.is("in twice as many", new WireCodec().number(above, 2 * n), 2 * n);
        }
        WireCodec z = new WireCodec();
        due.is("the most in 8", z.number(Due.GREATEST, 8), 8);
        due.is("read", z.read(0), Due.GREATEST);
    }

    private static void numberNoRoom() {
        int[] sizes = {1, 2, 4, 8};
        for (int n : sizes) {
            due.is("the last room", Pasts.framesRead(65536 - n).number(5, n), 65536);
            due.refused("one byte too many", Due.STATE, () -> Pasts.framesRead(65537 - n), x -> x.number(5, n));
            due.refused("a full tape", Due.STATE, () -> Pasts.datagramRead(65536), x -> x.number(5, n));
        }
        WireCodec y = Due.filled(65535);
        due.fails("the fewest of 64 are two", Due.STATE, () -> y.number(64, 0));
        due.is("the fewest of 63 is one", y.number(63, 0), 65536);
        due.fails("none is left", Due.STATE, () -> y.number(0, 0));
    }

    private static void clearEmpties() {
        WireCodec x = Pasts.framesRead(65536);
        x.clear();
        due.is("size()", x.size(), 0);
        due.fails("at(0)", Due.NO_SUCH, () -> x.at(0));
        due.fails("read(0)", Due.NO_SUCH, () -> x.read(0));
        due.is("frames(0, 0)", x.frames(0, 0), 0);
        due.fails("frames(1, 0)", Due.ARGUMENT, () -> x.frames(1, 0));
        due.is("a full tape has room again", x.feed(0x0102, 2), 2);
        due.tapeIs("from its begin on", x, 0, "0102");
        due.is("the draft stays", x.put(7), 7);
        due.tapeIs("the draft stays", x, 2, "07 03 ddeeff");
    }

    private static void clearForgets() {
        for (Due.Past past : Pasts.ALL) {
            WireCodec x = past.make();
            x.clear();
            due.is("fault(false)", x.fault(false), 0);
            due.is("fault(true)", x.fault(true), -1);
            due.fails("frame(0, 4)", Due.NO_SUCH, () -> x.frame(0, 4));
            due.fails("data(0, 0, false)", Due.NO_SUCH, () -> x.data(0, 0, false));
            due.fails("range(2, 0, false)", Due.NO_SUCH, () -> x.range(2, 0, false));
            due.fails("packet(0, 0)", Due.NO_SUCH, () -> x.packet(0, 0));
            for (int id = 0; id <= 16; id++) {
                due.is("parameter(" + id + ")", x.parameter(id), ParametersTest.ABSENT[id]);
            }
            x.feed(0x0f050903aabbccL, 7);
            due.fails("frames behind the clear are to be read", Due.NO_SUCH, () -> x.frame(0, 4));
        }
    }

    private static void clearTells() {
        due.is("an empty tape", new WireCodec().clear(), 0);
        due.is("one byte", Due.tape("ff").clear(), 1);
        WireCodec x = Due.filled(65536);
        due.is("a full tape", x.clear(), 65536);
        due.is("for the second time", x.clear(), 0);
    }

    private static void size() {
        WireCodec x = new WireCodec();
        due.is("none", x.size(), 0);
        x.feed(1, 1);
        due.is("one", x.size(), 1);
        x.number(64, 0);
        due.is("three", x.size(), 3);
        x.put(1);
        due.is("four", x.size(), 4);
        x.lead(4, 0, 0, 0, 0);
        due.is("five", x.size(), 5);
        x.frames(0, 2);
        x.head(0, 0);
        x.parameters(0, true);
        due.is("reading takes nothing away", x.size(), 5);
        due.is("a full tape", Due.filled(65536).size(), 65536);
    }

    private static void at() {
        WireCodec x = Due.tape("00 7f 80 ff");
        due.is("at(0)", x.at(0), 0);
        due.is("at(1)", x.at(1), 127);
        due.is("at(2)", x.at(2), 128);
        due.is("at(3), the last", x.at(3), 255);
        WireCodec y = Due.filled(65535);
        y.feed(0xfe, 1);
        due.is("at(65535), the last of all", y.at(65535), 254);
        due.is("at(1023)", y.at(1023), 0);
        due.is("at(1024)", y.at(1024), 0);
    }

    private static void atNone() {
        int[] none = {-1, Integer.MIN_VALUE, Integer.MAX_VALUE, 65536};
        for (int i : none) {
            due.refused("at(" + i + ")", Due.NO_SUCH, x -> x.at(i));
        }
        due.refused("at(size)", Due.NO_SUCH, x -> x.at(x.size()));
        due.refused("at(65536) of a full tape", Due.NO_SUCH, () -> Pasts.framesRead(65536), x -> x.at(65536));
        due.fails("at(0) of an empty tape", Due.NO_SUCH, () -> new WireCodec().at(0));
    }

    private static void read() {
        WireCodec x = Due.tape("c2197c5eff14e88c 9d7f3e7d 7bbd 25 4025");
        due.is("8 bytes", x.read(0), 151288809941952652L);
        due.is("4 bytes", x.read(8), 494878333);
        due.is("2 bytes", x.read(12), 15293);
        due.is("1 byte", x.read(14), 37);
        due.is("37 in 2 bytes", x.read(15), 37);
        due.is("the last byte alone", x.read(16), 37);
        WireCodec y = Due.filled(65528);
        y.number(Due.GREATEST, 8);
        due.is("the last 8 bytes of all", y.read(65528), Due.GREATEST);
        WireCodec z = Pasts.framesRead(0);
        z.read(3);
        due.is("what was read stays", z.frame(0, 0), 5);
        due.is("its fault stays", z.fault(false), 2);
    }

    private static void readNotAll() {
        due.is("1 of 2", Due.tape("40").read(0), -1);
        due.is("2 of 2", Due.tape("4001").read(0), 1);
        due.is("3 of 4", Due.tape("800000").read(0), -1);
        due.is("4 of 4", Due.tape("80000001").read(0), 1);
        due.is("7 of 8", Due.tape("c0000000000000").read(0), -1);
        due.is("8 of 8", Due.tape("c000000000000001").read(0), 1);
        due.is("1 of 8, the last", Due.tape("00c0").read(1), -1);
        WireCodec x = Due.filled(65529);
        x.feed(-1, 7);
        due.is("7 of 8 at the end of all", x.read(65529), -1);
        WireCodec y = Due.tape("ffffffffffffffff");
        y.clear();
        y.feed(0xc0, 1);
        due.is("what was there before a clear is not there", y.read(0), -1);
    }

    private static void readNoPlace() {
        int[] none = {-1, Integer.MIN_VALUE, Integer.MAX_VALUE, 65536};
        for (int from : none) {
            due.refused("read(" + from + ")", Due.NO_SUCH, x -> x.read(from));
        }
        due.refused("read(size)", Due.NO_SUCH, x -> x.read(x.size()));
        due.refused("read(65536) of a full tape", Due.NO_SUCH, () -> Pasts.framesRead(65536), x -> x.read(65536));
        due.is("read(65535) of a full tape", Due.filled(65536).read(65535), 0);
        due.fails("read(0) of an empty tape", Due.NO_SUCH, () -> new WireCodec().read(0));
    }
}
