/** Promises 18 to 21: head, datagram, packet, lead. */
public final class HeadersTest {
    private static final Due due = new Due("HeadersTest");
    private static final int CUT = 1;
    private static final int FIXED = 2;
    private static final int VERSION = 3;
    private static final int REFUSED = 4;
    private static final int NAME = 5;
    private static final int OTHER = 6;

    private static final String BODY = Due.bytes(20);
    private static final String LONG = "00000001 02 aabb 01 cc";

    public static void main(String[] args) {
        initial();
        handshake();
        shorts();
        wrongHeads();
        arguments();
        datagrams();
        otherNames();
        packets();
        leads();
        leadWrong();
        leadRoom();
        due.end();
    }

    private static void parts(WireCodec x, int i, long... want) {
        for (int what = 0; what < 12; what++) {
            due.is("packet(" + i + ", " + what + ")", x.packet(i, what), want[what]);
        }
    }

    private static void initial() {
        WireCodec x = Due.tape("c5" + LONG + "03 010203 4014" + BODY + "ff");
        due.is("head", x.head(0, 7), 16);
        due.is("fault", x.fault(false), 0);
        due.is("place", x.fault(true), -1);
        parts(x, 0, 0, 5, 1, 0, 16, 36, 6, 2, 9, 1, 11, 3);
        due.fails("packet 1", Due.NO_SUCH, () -> x.packet(1, 0));
        WireCodec y = Due.tape("01 c0 00000001 00 00 00 14" + BODY);
        due.is("an empty token", y.head(1, 0), 10);
        parts(y, 0, 0, 0, 1, 1, 10, 30, 7, 0, 8, 0, 9, 0);
        due.is("a longer length", Due.tape("c0 00000001 00 00 00 80000015" + BODY + "ab").head(0, 0), 12);
    }

    private static void handshake() {
        WireCodec x = Due.tape("ef" + LONG + "16" + BODY + "abab");
        due.is("head", x.head(0, 0), 11);
        parts(x, 0, 2, 15, 1, 0, 11, 33, 6, 2, 9, 1, 0, 0);
        String twenty = Due.bytes(20);
        due.is("names of 20", Due.tape("e0 00000001 14" + twenty + "14" + twenty + "14" + BODY).head(0, 0), 48);
    }

    private static void shorts() {
        WireCodec x = Due.tape("01 7f aabbcc" + BODY + "ab");
        due.is("head", x.head(1, 3), 5);
        parts(x, 0, 4, 63, 0, 1, 5, 26, 2, 3, 0, 0, 0, 0);
        x.feed(0, 8);
        due.is("its end stays", x.packet(0, 5), 26);
        due.is("names 0", x.head(1, 0), 2);
        parts(x, 0, 4, 63, 0, 1, 2, 34, 2, 0, 0, 0, 0, 0);
        due.is("names 20", x.head(1, 20), -1);
        due.is("fault", x.fault(false), CUT);
        due.is("names 13", x.head(1, 12), 14);
        due.is("one byte too few", x.head(1, 13), -1);
    }

    private static void wrong(String hex, int names, int fault) {
        WireCodec x = Due.tape("ff" + hex);
        due.is(hex + " head", x.head(1, names), -1);
        due.is(hex + " fault", x.fault(false), fault);
        due.is(hex + " place", x.fault(true), 1);
        due.fails(hex + " packet", Due.NO_SUCH, () -> x.packet(0, 0));
    }

    private static void wrongHeads() {
        wrong("", 0, CUT);
        wrong("00" + BODY + BODY, 0, FIXED);
        wrong("80 00000001 00 00 00 14" + BODY, 0, FIXED);
        wrong("bf", 0, FIXED);
        wrong("3f", 20, FIXED);
        wrong("c0", 0, CUT);
        wrong("c0 000000", 0, CUT);
        wrong("c0 00000002", 0, CUT);
        wrong("c0 00000002 15", 0, VERSION);
        wrong("c0 00000000 00 00 00 14" + BODY, 0, VERSION);
        wrong("d0 01000001 00 00", 0, VERSION);
        wrong("c0 ffffffff 00", 0, VERSION);
        wrong("c0 00000001 15", 0, NAME);
        wrong("d0 00000001 ff", 0, NAME);
        wrong("d0 00000001 14" + Due.bytes(19), 0, CUT);
        wrong("d0 00000001 02 aabb", 0, CUT);
        wrong("d0 00000001 02 aabb 15", 0, NAME);
        wrong("d0 00000001 02 aabb 02 aa", 0, CUT);
        wrong("d0 00000001 02 aabb 02 aabb", 0, REFUSED);
        wrong("f0 00000001 00 00", 0, REFUSED);
        wrong("f0 00000001 00 15" + BODY + BODY, 0, NAME);
        wrong("c0 00000001 00 00", 0, CUT);
        wrong("c0 00000001 00 00 02 aa", 0, CUT);
        wrong("c0 00000001 00 00 ffffffffffffffff aa", 0, CUT);
        wrong("c0 00000001 00 00 00", 0, CUT);
        wrong("c0 00000001 00 00 00 13" + BODY, 0, CUT);
        wrong("c0 00000001 00 00 00 15" + BODY, 0, CUT);
        wrong("c0 00000001 00 00 00 ffffffffffffffff" + BODY, 0, CUT);
        wrong("c0 00000001 00 00 00 40", 0, CUT);
        wrong("e0 00000001 00 00", 0, CUT);
        wrong("e0 00000001 00 00 00" + BODY, 0, CUT);
        wrong("e0 00000001 00 00 14" + Due.bytes(19), 0, CUT);
        wrong("40" + Due.bytes(19), 0, CUT);
        wrong("40 aa" + Due.bytes(19), 1, CUT);
        wrong("40" + Due.bytes(5), 6, CUT);
    }

    private static void arguments() {
        WireCodec x = Due.tape("40" + BODY);
        x.head(0, 0);
        due.fails("from -1", Due.ARGUMENT, () -> x.head(-1, 0));
        due.fails("from 22", Due.ARGUMENT, () -> x.head(22, 0));
        due.fails("names -1", Due.ARGUMENT, () -> x.head(0, -1));
        due.fails("names 21", Due.ARGUMENT, () -> x.head(0, 21));
        due.fails("datagram from -1", Due.ARGUMENT, () -> x.datagram(-1, 0));
        due.fails("datagram from 22", Due.ARGUMENT, () -> x.datagram(22, 0));
        due.fails("datagram names -1", Due.ARGUMENT, () -> x.datagram(0, -1));
        due.fails("datagram names 21", Due.ARGUMENT, () -> x.datagram(0, 21));
        due.is("what was read stays", x.packet(0, 0), 4);
        due.fails("packet what -1", Due.NO_SUCH, () -> x.packet(0, -1));
        due.fails("packet what 12", Due.NO_SUCH, () -> x.packet(0, 12));
        due.fails("packet -1", Due.NO_SUCH, () -> x.packet(-1, 0));
        due.fails("packet most", Due.NO_SUCH, () -> x.packet(Integer.MAX_VALUE, 0));
    }

    private static void datagrams() {
        String first = "c0" + LONG + "00 14" + BODY;
        String second = "e1" + LONG + "15" + BODY + "ab";
        String third = "42 aabb" + BODY + "ababab";
        WireCodec x = Due.tape("ff" + first + second + third);
        due.is("datagram", x.datagram(1, 2), 3);
        due.is("fault", x.fault(false), 0);
        due.is("place", x.fault(true), -1);
        parts(x, 0, 0, 0, 1, 1, 13, 33, 7, 2, 10, 1, 12, 0);
        parts(x, 1, 2, 1, 1, 33, 44, 65, 39, 2, 42, 1, 0, 0);
        parts(x, 2, 4, 2, 0, 65, 68, 91, 66, 2, 0, 0, 0, 0);
        due.fails("packet 3", Due.NO_SUCH, () -> x.packet(3, 0));
        due.is("nothing left", x.datagram(91, 2), 0);
        due.is("fault", x.fault(false), 0);
        due.fails("packet 0", Due.NO_SUCH, () -> x.packet(0, 0));
        WireCodec y = Due.tape(first + "0000");
        due.is("a wrong one behind", y.datagram(0, 2), 1);
        due.is("fault", y.fault(false), FIXED);
        due.is("place", y.fault(true), 32);
        due.is("the right one is there", y.packet(0, 5), 32);
        WireCodec z = Due.tape(first + "e0 000000");
        due.is("a cut one behind", z.datagram(0, 2), 1);
        due.is("fault", z.fault(false), CUT);
        due.is("a wrong first one", z.datagram(1, 2), 0);
        due.is("fault", z.fault(false), FIXED);
        due.is("place", z.fault(true), 1);
    }

    private static void otherNames() {
        String first = "c0" + LONG + "00 14" + BODY;
        String[] others = {
            "e0 00000001 02 aabc 01 cc 14" + BODY, "e0 00000001 02 abbb 01 cc 14" + BODY,
            "e0 00000001 01 aa 01 cc 14" + BODY, "e0 00000001 03 aabb00 01 cc 14" + BODY,
            "e0 00000001 00 01 cc 14" + BODY, "40 aabc" + BODY
        };
        for (String other : others) {
            WireCodec x = Due.tape(first + first + other + first);
            due.is(other, x.datagram(0, 2), 2);
            due.is(other + " fault", x.fault(false), OTHER);
            due.is(other + " place", x.fault(true), 64);
        }
        WireCodec y = Due.tape(first + "e0 00000001 02 aabb 00 14" + BODY);
        due.is("another name BY is fine", y.datagram(0, 2), 2);
        WireCodec z = Due.tape(first + "e0 00000001 02 aabc 01 cc 13" + BODY);
        due.is("wrong ahead of other", z.datagram(0, 2), 1);
        due.is("fault", z.fault(false), CUT);
        WireCodec w = Due.tape("e0 00000001 00 00 14" + BODY + "40" + BODY);
        due.is("empty names are the same", w.datagram(0, 0), 2);
    }

    private static void packets() {
        WireCodec x = new WireCodec();
        String one = "e0 00000001 00 00 14" + BODY;
        for (int k = 0; k < 100; k++) {
            Due.feed(x, one);
        }
        due.is("datagram", x.datagram(0, 0), 100);
        due.is("the last begins", x.packet(99, 3), 99 * 28);
        due.is("the last ends", x.packet(99, 5), 2800);
    }

    private static void leads() {
        WireCodec x = new WireCodec();
        Due.add(x, "aabb cc 010203");
        due.is("initial", x.lead(0, 5, 2, 1, 20), 16);
        due.tapeIs("initial", x, 0, "c5 00000001 02 aabb 01 cc 03 010203 4014");
        int size = x.size();
        due.is("initial without names", x.lead(0, 15, 0, 0, 16383), size + 16);
        due.tapeIs("initial without names", x, size, "cf 00000001 00 00 06 aabbcc010203 7fff");
        x.clear();
        due.is("handshake", x.lead(2, 15, 2, 4, 300), 15);
        due.tapeIs("handshake", x, 0, "ef 00000001 02 aabb 04 cc010203 412c");
        x.clear();
        due.is("short", x.lead(4, 63, 2, 0, -7), 3);
        due.is("short without a name", x.lead(4, 0, 0, 0, 99999), 4);
        due.tapeIs("short", x, 0, "7f aabb 40");
        x.draft();
        x.clear();
        due.is("no data at all", x.lead(0, 0, 0, 0, 20), 10);
        due.tapeIs("no data at all", x, 0, "c0 00000001 00 00 00 4014");
        x.clear();
        Due.add(x, Due.bytes(40) + "01".repeat(64));
        due.is("all that is long", x.lead(0, 0, 20, 20, 20), 7 + 40 + 2 + 64 + 2);
        due.is("its token's bytes", x.read(47), 64);
        Due.feed(x, BODY);
        due.is("it is read", x.head(0, 0), 115);
        due.is("its token", x.packet(0, 11), 64);
    }

    private static void refuses(WireCodec x, int kind, int r, int to, int by, int length) {
        String call = "lead(" + kind + ", " + r + ", " + to + ", " + by + ", " + length + ")";
        due.fails(call, Due.ARGUMENT, () -> x.lead(kind, r, to, by, length));
        due.is(call + ", size", x.size(), 0);
    }

    private static void leadWrong() {
        WireCodec x = new WireCodec();
        Due.add(x, "aabbcc");
        int[] kinds = {-1, 1, 3, 5, Integer.MIN_VALUE};
        for (int kind : kinds) {
            refuses(x, kind, 0, 1, 2, 20);
            refuses(x, kind, 0, 1, 0, 20);
        }
        refuses(x, 0, -1, 1, 2, 20);
        refuses(x, 0, 16, 1, 2, 20);
        refuses(x, 2, 16, 1, 2, 20);
        refuses(x, 2, -1, 1, 2, 20);
        refuses(x, 4, 64, 1, 0, 20);
        refuses(x, 4, -1, 1, 0, 20);
        refuses(x, 0, 0, -1, 2, 20);
        refuses(x, 0, 0, 2, -1, 20);
        refuses(x, 2, 0, 4, -1, 20);
        refuses(x, 4, 0, -1, 0, 20);
        refuses(x, 4, 0, 1, 1, 20);
        refuses(x, 4, 0, 1, -1, 20);
        refuses(x, 0, 0, 2, 2, 20);
        refuses(x, 2, 0, 2, 2, 20);
        refuses(x, 4, 0, 4, 0, 20);
        refuses(x, 2, 0, 1, 1, 20);
        refuses(x, 0, 0, 1, 2, 19);
        refuses(x, 0, 0, 1, 2, 16384);
        refuses(x, 2, 0, 1, 2, 19);
        refuses(x, 2, 0, 1, 2, 16384);
        refuses(x, 0, 0, Integer.MAX_VALUE, 1, 20);
        Due.add(x, Due.bytes(60));
        refuses(x, 0, 0, 21, 0, 20);
        refuses(x, 0, 0, 0, 21, 20);
        refuses(x, 4, 0, 21, 0, 20);
    }

    private static void leadRoom() {
        WireCodec x = Due.filled(65524);
        Due.add(x, "aabbcc");
        due.fails("one byte too many", Due.STATE, () -> x.lead(0, 0, 1, 2, 20));
        due.is("nothing is written", x.size(), 65524);
        due.fails("argument ahead of room", Due.ARGUMENT, () -> x.lead(0, 0, 1, 2, 19));
        due.is("room for it", x.lead(2, 0, 1, 2, 20), 65536);
        due.fails("full", Due.STATE, () -> x.lead(4, 0, 0, 0, 0));
    }
}
