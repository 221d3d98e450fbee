/** Promise 21: lead. */
public final class LeadTest {
    private static final Due due = new Due("LeadTest");
    private static final int INITIAL = 0;
    private static final int HANDSHAKE = 2;
    private static final int SHORT = 4;
    private static final String BODY = Due.bytes(20);

    public static void main(String[] args) {
        tests(due);
        due.end();
    }

    static void tests(Due d) {
        d.test("Promise 21",
                "Writes a header behind the tape, its names and token being of the draft's data: the first to bytes,"
                + " the by bytes behind, the rest the token (0 with kind 2).", LeadTest::writes);
        d.test("Promise 21", "r, version 1, LENGTH (in two bytes).", LeadTest::rVersionLength);
        d.test("Promise 21", "With kind 4 the name TO alone: by is 0, the rest does not count, length neither.",
                LeadTest::shortOnes);
        d.test("Promise 21", "How many bytes the tape has.", LeadTest::howMany);
        d.test("Promise 21", "Throws IllegalArgumentException when kind is not 0, 2 or 4", LeadTest::noKind);
        d.test("Promise 21", "r not 0 .. 15 (63 with 4)", LeadTest::noR);
        d.test("Promise 21", "to or by not 0 .. 20 (by not 0 with 4)", LeadTest::noNames);
        d.test("Promise 21", "the data has fewer bytes or, with kind 2, more", LeadTest::noData);
        d.test("Promise 21", "or length not 20 .. 16383 (with 0 and 2)", LeadTest::noLength);
        d.test("Promise 21", "IllegalStateException when there is no room.", LeadTest::noRoom);
    }

    private static WireCodec drafted(String data) {
        WireCodec x = new WireCodec();
        Due.add(x, data);
        return x;
    }

    private static void refuses(int bytes, int kind, int r, int to, int by, int length) {
        String call = bytes + " bytes, lead(" + kind + ", " + r + ", " + to + ", " + by + ", " + length + ")";
        due.refused(call, Due.ARGUMENT, () -> drafted(Due.bytes(bytes)), x -> x.lead(kind, r, to, by, length));
    }

    private static void writes() {
        WireCodec x = drafted("aabb cc 010203");
        due.is("INITIAL", x.lead(INITIAL, 5, 2, 1, 20), 16);
        due.tapeIs("INITIAL", x, 0, "c5 00000001 02 aabb 01 cc 03 010203 4014");
        due.is("without names", x.lead(INITIAL, 15, 0, 0, 16383), 16 + 16);
        due.tapeIs("without names", x, 16, "cf 00000001 00 00 06 aabbcc010203 7fff");
        x.clear();
        due.is("without a token", x.lead(INITIAL, 0, 3, 3, 20), 16);
        due.tapeIs("without a token", x, 0, "c0 00000001 03 aabbcc 03 010203 00 4014");
        x.clear();
        due.is("HANDSHAKE", x.lead(HANDSHAKE, 15, 2, 4, 300), 15);
        due.tapeIs("HANDSHAKE", x, 0, "ef 00000001 02 aabb 04 cc010203 412c");
        due.is("the draft stays", x.add(1, 1), 7);
        WireCodec empty = new WireCodec();
        due.is("no data at all", empty.lead(INITIAL, 0, 0, 0, 20), 10);
        due.tapeIs("no data at all", empty, 0, "c0 00000001 00 00 00 4014");
        due.is("no data at all", empty.lead(HANDSHAKE, 0, 0, 0, 20), 19);
        due.tapeIs("no data at all", empty, 10, "e0 00000001 00 00 4014");
        longest();
    }

    private static void longest() {
        WireCodec x = drafted("aa".repeat(20) + "bb".repeat(20) + "cc".repeat(1960));
        due.is("all that is long", x.lead(INITIAL, 0, 20, 20, 20), 7 + 40 + 2 + 1960 + 2);
        due.is("its token's bytes", x.read(47), 1960);
        Due.feed(x, BODY);
        due.is("it is read", x.head(0, 0), 2011);
        due.is("bytes of TO", x.packet(0, 7), 20);
        due.is("bytes of BY", x.packet(0, 9), 20);
        due.is("bytes of the token", x.packet(0, 11), 1960);
        due.is("the last of TO", x.at(25), 0xaa);
        due.is("the first of BY", x.at(27), 0xbb);
        due.is("the last of BY", x.at(46), 0xbb);
        due.is("the first of the token", x.at(49), 0xcc);
        due.is("the last of the token", x.at(2008), 0xcc);
    }

    private static void rVersionLength() {
        int[] lengths = {20, 63, 64, 16383};
        String[] as = {"4014", "403f", "4040", "7fff"};
        for (int k = 0; k < 4; k++) {
            WireCodec x = new WireCodec();
            x.lead(INITIAL, 0, 0, 0, lengths[k]);
            due.tapeIs("LENGTH", x, 0, "c0 00000001 00 00 00" + as[k]);
            x.clear();
            x.lead(HANDSHAKE, 0, 0, 0, lengths[k]);
            due.tapeIs("LENGTH", x, 0, "e0 00000001 00 00" + as[k]);
        }
        for (int r = 0; r <= 15; r++) {
            WireCodec x = new WireCodec();
            x.lead(INITIAL, r, 0, 0, 20);
            Due.feed(x, BODY);
            x.lead(HANDSHAKE, r, 0, 0, 20);
            Due.feed(x, BODY);
            due.is("both are read", x.datagram(0, 0), 2);
            due.is("r", x.packet(0, 1), r);
            due.is("version", x.packet(0, 2), 1);
            due.is("r", x.packet(1, 1), r);
            due.is("kind", x.packet(1, 0), 2);
        }
    }

    private static void shortOnes() {
        int[] any = {Integer.MIN_VALUE, -1, 0, 19, 16384, Integer.MAX_VALUE};
        for (int length : any) {
            WireCodec x = drafted("aabb cc");
            due.is("short", x.lead(SHORT, 63, 2, 0, length), 3);
            due.is("short without a name", x.lead(SHORT, 0, 0, 0, length), 4);
            due.is("short with all of the data", x.lead(SHORT, 1, 3, 0, length), 8);
            due.tapeIs("short", x, 0, "7f aabb 40 41 aabbcc");
        }
        for (int r = 0; r <= 63; r++) {
            WireCodec x = new WireCodec();
            x.lead(SHORT, r, 0, 0, 0);
            Due.feed(x, BODY);
            x.head(0, 0);
            due.is("r", x.packet(0, 1), r);
        }
        due.is("a name of 20, and much that does not count", drafted(Due.bytes(2000)).lead(SHORT, 0, 20, 0, 0), 21);
    }

    private static void howMany() {
        WireCodec x = Pasts.framesRead(0);
        int size = x.size();
        due.is("behind the tape", x.lead(INITIAL, 0, 1, 1, 20), size + 13);
        due.is("and again", x.lead(SHORT, 0, 1, 0, 20), size + 15);
        due.is("what was read stays", x.frame(2, 4), 3);
        due.is("the fault stays", x.fault(false), 2);
    }

    private static void noKind() {
        int[] none = {-1, 1, 3, 5, 6, 256, Integer.MIN_VALUE, Integer.MAX_VALUE};
        for (int kind : none) {
            refuses(3, kind, 0, 1, 2, 20);
            refuses(3, kind, 0, 3, 0, 20);
            due.refused("kind " + kind, Due.ARGUMENT, x -> x.lead(kind, 0, 0, 0, 20));
        }
    }

    private static void noR() {
        int[] none = {-1, 16, 63, 64, Integer.MIN_VALUE, Integer.MAX_VALUE};
        for (int r : none) {
            refuses(3, INITIAL, r, 1, 2, 20);
            refuses(3, HANDSHAKE, r, 1, 2, 20);
            if (r != 16 && r != 63) {
                refuses(3, SHORT, r, 3, 0, 20);
            }
        }
        due.is("r 15", drafted("aabbcc").lead(INITIAL, 15, 1, 2, 20), 13);
        due.is("r 15", drafted("aabbcc").lead(HANDSHAKE, 15, 1, 2, 20), 12);
        due.is("r 63", drafted("aabbcc").lead(SHORT, 63, 3, 0, 20), 4);
    }

    private static void noNames() {
        int[] none = {-1, 21, Integer.MIN_VALUE, Integer.MAX_VALUE};
        for (int n : none) {
            refuses(60, INITIAL, 0, n, 0, 20);
            refuses(60, INITIAL, 0, 0, n, 20);
            refuses(60, SHORT, 0, n, 0, 20);
            refuses(60, SHORT, 0, 0, n, 20);
        }
        refuses(21, HANDSHAKE, 0, 21, 0, 20);
        refuses(21, HANDSHAKE, 0, 0, 21, 20);
        refuses(3, HANDSHAKE, 0, 4, -1, 20);
        refuses(3, HANDSHAKE, 0, -1, 4, 20);
        refuses(3, HANDSHAKE, 0, Integer.MAX_VALUE, Integer.MIN_VALUE + 4, 20);
        refuses(3, SHORT, 0, 1, 1, 20);
        refuses(3, SHORT, 0, 1, -1, 20);
        refuses(60, SHORT, 0, 20, 20, 20);
        due.is("20 and 20", drafted(Due.bytes(40)).lead(HANDSHAKE, 0, 20, 20, 20), 7 + 40 + 2);
        due.is("20 and 20", drafted(Due.bytes(40)).lead(INITIAL, 0, 20, 20, 20), 7 + 40 + 1 + 2);
        due.is("20", drafted(Due.bytes(20)).lead(SHORT, 0, 20, 0, 20), 21);
    }

    private static void noData() {
        refuses(3, INITIAL, 0, 2, 2, 20);
        refuses(3, HANDSHAKE, 0, 2, 2, 20);
        refuses(3, SHORT, 0, 4, 0, 20);
        refuses(0, INITIAL, 0, 1, 0, 20);
        refuses(0, INITIAL, 0, 0, 1, 20);
        refuses(0, HANDSHAKE, 0, 0, 1, 20);
        refuses(0, SHORT, 0, 1, 0, 20);
        refuses(39, INITIAL, 0, 20, 20, 20);
        due.is("just as many", drafted("aabbcc").lead(INITIAL, 0, 1, 2, 20), 13);
        due.is("just as many", drafted("aabbcc").lead(HANDSHAKE, 0, 1, 2, 20), 12);
        due.is("just as many", drafted("aabbcc").lead(SHORT, 0, 3, 0, 20), 4);
        refuses(3, HANDSHAKE, 0, 1, 1, 20);
        refuses(1, HANDSHAKE, 0, 0, 0, 20);
        refuses(2000, HANDSHAKE, 0, 20, 20, 20);
        due.is("more is the token", drafted("aabbcc").lead(INITIAL, 0, 1, 1, 20), 13);
        due.is("more does not count", drafted("aabbcc").lead(SHORT, 0, 1, 0, 20), 2);
    }

    private static void noLength() {
        int[] none = {19, 16384, 0, -1, Integer.MIN_VALUE, Integer.MAX_VALUE};
        for (int length : none) {
            refuses(3, INITIAL, 0, 1, 2, length);
            refuses(3, HANDSHAKE, 0, 1, 2, length);
        }
        int[] right = {20, 16383};
        for (int length : right) {
            due.is("length " + length, drafted("aabbcc").lead(INITIAL, 0, 1, 2, length), 13);
            due.is("length " + length, drafted("aabbcc").lead(HANDSHAKE, 0, 1, 2, length), 12);
        }
    }

    private static void noRoom() {
        int[] kinds = {INITIAL, HANDSHAKE, SHORT};
        int[] bytes = {13, 12, 4};
        for (int k = 0; k < 3; k++) {
            int kind = kinds[k];
            int size = 65536 - bytes[k];
            int to = kind == SHORT ? 3 : 1;
            int by = kind == SHORT ? 0 : 2;
            due.is("the last room", Pasts.framesRead(size).lead(kind, 0, to, by, 20), 65536);
            due.refused("one byte too many", Due.STATE, () -> Pasts.framesRead(size + 1), x -> x.lead(kind, 0, to, by, 20));
            due.refused("a full tape", Due.STATE, () -> Pasts.datagramRead(65536), x -> x.lead(kind, 0, to, by, 20));
        }
        WireCodec y = Due.filled(65524);
        Due.add(y, "aabbcc");
        due.fails("13 in 12", Due.STATE, () -> y.lead(INITIAL, 0, 1, 2, 20));
        due.is("nothing is written", y.size(), 65524);
        due.is("12 in 12", y.lead(HANDSHAKE, 0, 1, 2, 20), 65536);
        due.tapeIs("12 in 12", y, 65524, "e0 00000001 01 aa 02 bbcc 4014");
    }
}
