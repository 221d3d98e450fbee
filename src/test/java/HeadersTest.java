/** 'Terms', HEADERS and DATAGRAMS, and promises 18 to 20: head, datagram, packet. */
public final class HeadersTest {
    private static final Due due = new Due("HeadersTest");
    private static final int CUT = 1;
    private static final int FIXED = 2;
    private static final int VERSION = 3;
    private static final int REFUSED = 4;
    private static final int NAME = 5;
    private static final int OTHER = 6;

    private static final String BODY = Due.bytes(20);
    private static final String LONG = "00000001 02 aabb 01 cc";
    private static final String FIRST = "c0" + LONG + "00 14" + BODY;
    private static final String F8 = "ffffffffffffffff";
    private static final int[] NO_NAMES = {-1, 21, 22, 256, Integer.MIN_VALUE, Integer.MAX_VALUE};
    private static final int[] NO_PLACES = {-1, 65537, Integer.MIN_VALUE, Integer.MAX_VALUE};

    public static void main(String[] args) {
        tests(due);
        due.end();
    }

    static void tests(Due d) {
        headers(d);
        wrongs(d);
        datagrams(d);
        d.test("Promise 18",
                "Reads the header at a place, names TO of short ones having so many bytes: where the packet's number"
                + " begins", HeadersTest::head);
        d.test("Promise 18", "-1 when it is wrong.", HeadersTest::headWrong);
        d.test("Promise 18", "Throws IllegalArgumentException when from is not 0 .. size", HeadersTest::headNoPlace);
        d.test("Promise 18", "or names not 0 .. 20.", HeadersTest::headNoNames);
        d.test("Promise 19", "Reads the tape from a place on as a datagram: how many packets (0 without a fault where"
                + " nothing is left).", HeadersTest::datagram);
        d.test("Promise 19", "Throws IllegalArgumentException as head does.", HeadersTest::datagramRefused);
        d.test("Promise 20",
                "Of packet i that was read (0 behind head): 0 its kind, 1 r, 2 the version (0 for a short one), 3"
                + " where it begins, 4 where its number begins, 5 where it ends, 6, 7 the place and bytes of its name"
                + " TO, 8, 9 of BY, 10, 11 of its token", HeadersTest::packet);
        d.test("Promise 20", "(places are 0 where its kind of header has none; an empty one has its place).",
                HeadersTest::packetPlaces);
        d.test("Promise 20", "Throws NoSuchElementException when there is no such packet or what.",
                HeadersTest::noPacket);
    }

    private static void headers(Due d) {
        d.test("Promise 18, Terms", "HEADERS. NAMES of connections have 0 .. 20 bytes.", HeadersTest::names);
        d.test("Promise 18, Terms",
                "A LONG one: a byte 128 + 64 + 16 * kind + r (kind 0 INITIAL, 1 EARLY, 2 HANDSHAKE, 3 RETRY; r 0 .."
                + " 15), x(4) the version, x(1) how many, and the bytes of the name TO, likewise the name BY",
                HeadersTest::longOnes);
        d.test("Promise 18, Terms",
                "INITIAL: D(n) a token; n the LENGTH: what follows, which begins with the packet's number.",
                HeadersTest::tokenAndLength);
        d.test("Promise 18, Terms",
                "A SHORT one (kind 4): a byte 64 + r (r 0 .. 63), and the bytes of the name TO, as many as those who"
                + " read it know.", HeadersTest::shortOnes);
    }

    private static void wrongs(Due d) {
        d.test("Promise 18, Terms", "Wrong, the first that holds: 1 CUT: the byte is not there", HeadersTest::noByte);
        d.test("Promise 18, Terms", "2 FIXED: its bit 64 is 0", HeadersTest::fixed);
        d.test("Promise 18, Terms", "then, for a long one: 1 CUT: version or the byte behind it is not there",
                HeadersTest::noVersion);
        d.test("Promise 18, Terms", "3 VERSION: it is not 1", HeadersTest::version);
        d.test("Promise 18, Terms", "5 NAME: a name of more than 20", HeadersTest::longNames);
        d.test("Promise 18, Terms", "4 REFUSED: kind 1 or 3 (asked when both names have been read)",
                HeadersTest::refusedKinds);
        d.test("Promise 18, Terms", "1 CUT: anything else is not there", HeadersTest::anythingElse);
        d.test("Promise 18, Terms", "or fewer bytes than LENGTH are left", HeadersTest::lengthNotLeft);
        d.test("Promise 18, Terms", "or LENGTH is less than 20.", HeadersTest::lengthTooSmall);
        d.test("Promise 18, Terms", "For a short one: 1 CUT: the name, or 20 bytes behind it, are not there.",
                HeadersTest::shortCut);
    }

    private static void datagrams(Due d) {
        d.test("Promise 19, Terms",
                "A DATAGRAM is packets, one behind the other; a long one ends as its LENGTH says, a short one with"
                + " the datagram.", HeadersTest::oneBehindTheOther);
        d.test("Promise 19, Terms", "Reading it ends at the first that is wrong", HeadersTest::datagramWrong);
        d.test("Promise 19, Terms", "or (6 OTHER) whose name TO is not that of the first.", HeadersTest::otherNames);
    }

    private static void parts(WireCodec x, int i, long... want) {
        for (int what = 0; what < 12; what++) {
            due.is("packet(" + i + ", " + what + ")", x.packet(i, what), want[what]);
        }
    }

    private static void right(String hex, int names, int number) {
        WireCodec x = Due.tape("ff" + hex);
        due.is(hex + " head", x.head(1, names), 1 + number);
        due.is(hex + " fault", x.fault(false), 0);
        due.is(hex + " place", x.fault(true), -1);
    }

    private static void wrong(String hex, int names, int fault) {
        WireCodec x = Due.tape("ff" + hex);
        due.is(hex + " head", x.head(1, names), -1);
        due.is(hex + " fault", x.fault(false), fault);
        due.is(hex + " place", x.fault(true), 1);
        due.fails(hex + " packet", Due.NO_SUCH, () -> x.packet(0, 0));
    }

    private static void names() {
        for (int to = 0; to <= 20; to++) {
            int by = 20 - to;
            WireCodec x = Due.tape("e0 00000001" + Due.hex(to) + Due.bytes(to) + Due.hex(by) + Due.bytes(by) + "14" + BODY);
            due.is("head", x.head(0, 0), 28);
            due.is("bytes of TO", x.packet(0, 7), to);
            due.is("bytes of BY", x.packet(0, 9), by);
            right("40" + Due.bytes(to) + BODY, to, 1 + to);
        }
        right("e0 00000001 14" + BODY + "14" + BODY + "14" + BODY, 0, 48);
        right("e0 00000001 00 00 14" + BODY, 0, 8);
    }

    private static void longOnes() {
        for (int r = 0; r <= 15; r++) {
            WireCodec x = Due.tape(Due.hex(0xc0 + r) + LONG + "00 14" + BODY + Due.hex(0xe0 + r) + LONG + "14" + BODY);
            due.is("datagram", x.datagram(0, 0), 2);
            parts(x, 0, 0, r, 1, 0, 12, 32, 6, 2, 9, 1, 11, 0);
            parts(x, 1, 2, r, 1, 32, 43, 63, 38, 2, 41, 1, 0, 0);
            wrong(Due.hex(0xd0 + r) + LONG + "14" + BODY, 0, REFUSED);
            wrong(Due.hex(0xf0 + r) + LONG + "14" + BODY, 0, REFUSED);
        }
        WireCodec y = Due.tape("e0" + LONG + "14" + BODY);
        due.is("names are not asked for with a long one", y.head(0, 20), 11);
        due.is("bytes of TO", y.packet(0, 7), 2);
    }

    private static void tokenAndLength() {
        WireCodec x = Due.tape("c5" + LONG + "03 010203 4014" + BODY + "ff");
        due.is("head", x.head(0, 7), 16);
        parts(x, 0, 0, 5, 1, 0, 16, 36, 6, 2, 9, 1, 11, 3);
        right("c0" + LONG + "00 14" + BODY, 0, 12);
        right("c0" + LONG + "4000 14" + BODY, 0, 13);
        right("c0" + LONG + "3f" + Due.bytes(63) + "14" + BODY, 0, 12 + 63);
        right("c0" + LONG + "4040" + Due.bytes(64) + "14" + BODY, 0, 13 + 64);
        right("c0" + LONG + "00 80000014" + BODY, 0, 15);
        right("c0" + LONG + "00 c000000000000014" + BODY, 0, 19);
        WireCodec y = Due.tape("ef" + LONG + "16" + BODY + "abab" + "ff");
        due.is("a HANDSHAKE has no token", y.head(0, 0), 11);
        parts(y, 0, 2, 15, 1, 0, 11, 33, 6, 2, 9, 1, 0, 0);
        WireCodec all = Due.tape("e0 00000001 00 00 8000fff4");
        Due.fill(all, 65536);
        due.is("LENGTH up to the end of a full tape", all.head(0, 0), 11);
        due.is("its end is short of that", all.packet(0, 5), 11 + 0xfff4);
    }

    private static void shortOnes() {
        for (int r = 0; r <= 63; r++) {
            WireCodec x = Due.tape("01" + Due.hex(64 + r) + "aabbcc" + BODY + "ab");
            due.is("head", x.head(1, 3), 5);
            parts(x, 0, 4, r, 0, 1, 5, 26, 2, 3, 0, 0, 0, 0);
        }
        WireCodec y = Due.tape("40" + Due.bytes(40));
        for (int names = 0; names <= 20; names++) {
            due.is("names " + names, y.head(0, names), 1 + names);
            parts(y, 0, 4, 0, 0, 0, 1 + names, 41, 1, names, 0, 0, 0, 0);
        }
    }

    private static void noByte() {
        wrong("", 0, CUT);
        wrong("", 20, CUT);
        WireCodec x = new WireCodec();
        due.is("an empty tape", x.head(0, 0), -1);
        due.is("its fault", x.fault(false), CUT);
        due.is("its place", x.fault(true), 0);
        WireCodec full = Due.filled(65536);
        due.is("behind a full tape", full.head(65536, 0), -1);
        due.is("its place", full.fault(true), 65536);
    }

    private static void fixed() {
        for (int first = 0; first < 256; first++) {
            if (first / 64 % 2 == 0) {
                wrong(Due.hex(first), 0, FIXED);
                wrong(Due.hex(first) + "00000001 00 00 00 14" + BODY, 20, FIXED);
            }
        }
        wrong("7f", 0, CUT);
        wrong("ff", 0, CUT);
    }

    private static void noVersion() {
        String[] cut = {"", "00", "0000", "000000", "00000001", "00000002", "ffffffff"};
        int[] firsts = {0xc0, 0xd0, 0xe0, 0xff};
        for (int first : firsts) {
            for (String version : cut) {
                wrong(Due.hex(first) + version, 0, CUT);
            }
        }
    }

    private static void version() {
        String[] others = {"00000000", "00000002", "01000001", "00000101", "00010001", "81000001", "01000000", "ffffffff",
            "80000001"};
        for (String version : others) {
            wrong("c0" + version + "00 00 00 14" + BODY, 0, VERSION);
            wrong("c0" + version + "00", 0, VERSION);
            wrong("d0" + version + "00 00", 0, VERSION);
            wrong("e0" + version + "ff", 0, VERSION);
            wrong("e0" + version + "15" + Due.bytes(21), 0, VERSION);
        }
        right("c0 00000001 00 00 00 14" + BODY, 0, 9);
    }

    private static void longNames() {
        int[] firsts = {0xc0, 0xd0, 0xe0, 0xf0};
        for (int first : firsts) {
            String begin = Due.hex(first) + "00000001";
            wrong(begin + "15", 0, NAME);
            wrong(begin + "15" + Due.bytes(21) + "00 00 14" + BODY, 0, NAME);
            wrong(begin + "ff", 0, NAME);
            wrong(begin + "02 aabb 15", 0, NAME);
            wrong(begin + "02 aabb 15" + Due.bytes(21) + "00 14" + BODY, 0, NAME);
            wrong(begin + "14" + BODY + "80", 0, NAME);
            wrong(begin + "00 ff", 0, NAME);
        }
        right("c0 00000001 14" + BODY + "14" + BODY + "00 14" + BODY, 0, 49);
    }

    private static void refusedKinds() {
        int[] firsts = {0xd0, 0xdf, 0xf0, 0xff};
        for (int first : firsts) {
            String begin = Due.hex(first) + "00000001";
            wrong(begin + "00 00", 0, REFUSED);
            wrong(begin + "02 aabb 02 aabb", 0, REFUSED);
            wrong(begin + "14" + BODY + "14" + BODY, 0, REFUSED);
            wrong(begin + "00 00 00 14" + BODY, 0, REFUSED);
            wrong(begin + "00", 0, CUT);
            wrong(begin + "02 aa", 0, CUT);
            wrong(begin + "02 aabb", 0, CUT);
            wrong(begin + "02 aabb 02 aa", 0, CUT);
            wrong(begin + "14" + Due.bytes(19), 0, CUT);
            wrong(begin + "00 14" + Due.bytes(19), 0, CUT);
        }
    }

    private static void anythingElse() {
        String[] whole = {"c0" + LONG + "4003 010203 4014", "e0" + LONG + "4014", "c0 00000001 00 00 00 14",
            "e0 00000001 00 00 14"};
        for (String hex : whole) {
            String digits = hex.replace(" ", "");
            right(digits + BODY, 0, digits.length() / 2);
            for (int end = 2; end <= digits.length(); end += 2) {
                wrong(digits.substring(0, end), 0, CUT);
            }
        }
        wrong("c0 00000001 00 00 02 aa", 0, CUT);
        wrong("c0 00000001 00 00 15" + BODY, 0, CUT);
        wrong("c0 00000001 00 00" + F8 + "aa", 0, CUT);
        wrong("c0 00000001 00 00 c000000100000000 14" + BODY, 0, CUT);
        wrong("c0 00000001 00 00 14" + BODY, 0, CUT);
    }

    private static void lengthNotLeft() {
        String[] begins = {"c0 00000001 00 00 00", "e0 00000001 00 00"};
        for (String begin : begins) {
            int bytes = begin.replace(" ", "").length() / 2;
            right(begin + "14" + BODY, 0, bytes + 1);
            right(begin + "14" + BODY + "ab", 0, bytes + 1);
            wrong(begin + "14" + Due.bytes(19), 0, CUT);
            wrong(begin + "14", 0, CUT);
            wrong(begin + "15" + BODY, 0, CUT);
            right(begin + "15" + BODY + "ab", 0, bytes + 1);
            wrong(begin + "80010000" + BODY, 0, CUT);
            wrong(begin + "c000000100000014" + BODY, 0, CUT);
            wrong(begin + F8 + BODY, 0, CUT);
        }
    }

    private static void lengthTooSmall() {
        String[] begins = {"c0 00000001 00 00 00", "e0 00000001 00 00"};
        for (String begin : begins) {
            wrong(begin + "00" + BODY, 0, CUT);
            wrong(begin + "01" + BODY, 0, CUT);
            wrong(begin + "13" + BODY, 0, CUT);
            wrong(begin + "4013" + BODY, 0, CUT);
            wrong(begin + "00", 0, CUT);
            right(begin + "4014" + BODY, 0, begin.replace(" ", "").length() / 2 + 2);
        }
    }

    private static void shortCut() {
        wrong("40", 0, CUT);
        wrong("40" + Due.bytes(19), 0, CUT);
        right("40" + BODY, 0, 1);
        wrong("40 aa" + Due.bytes(19), 1, CUT);
        right("40 aa" + BODY, 1, 2);
        wrong("40" + Due.bytes(39), 20, CUT);
        right("40" + Due.bytes(40), 20, 21);
        wrong("40" + Due.bytes(5), 6, CUT);
        wrong("40", 20, CUT);
        wrong("7f" + Due.bytes(19), 20, CUT);
    }

    private static void oneBehindTheOther() {
        String second = "e1" + LONG + "15" + BODY + "ab";
        String third = "42 aabb" + BODY + "ababab";
        WireCodec x = Due.tape("ff" + FIRST + second + third);
        due.is("datagram", x.datagram(1, 2), 3);
        due.is("fault", x.fault(false), 0);
        due.is("place", x.fault(true), -1);
        parts(x, 0, 0, 0, 1, 1, 13, 33, 7, 2, 10, 1, 12, 0);
        parts(x, 1, 2, 1, 1, 33, 44, 65, 39, 2, 42, 1, 0, 0);
        parts(x, 2, 4, 2, 0, 65, 68, 91, 66, 2, 0, 0, 0, 0);
        due.fails("packet 3", Due.NO_SUCH, () -> x.packet(3, 0));
        WireCodec y = Due.tape("40 aabb" + BODY + FIRST);
        due.is("a short one takes what is behind it", y.datagram(0, 2), 1);
        due.is("its end", y.packet(0, 5), 23 + 32);
        y.feed(1, 8);
        due.is("the end that the datagram had", y.packet(0, 5), 23 + 32);
    }

    private static void datagramWrong() {
        String[] behind = {"00", "0000", "e0", "e0 000000", "e0 00000002 00", "e0 00000001 15", "d0" + LONG + "14" + BODY,
            "f0" + LONG, "e0" + LONG + "14" + Due.bytes(19), "e0" + LONG + "13" + BODY, "40 aabb" + Due.bytes(19)};
        int[] faults = {FIXED, FIXED, CUT, CUT, VERSION, NAME, REFUSED, REFUSED, CUT, CUT, CUT};
        for (int k = 0; k < behind.length; k++) {
            WireCodec x = Due.tape(FIRST + behind[k]);
            due.is(behind[k] + " packets", x.datagram(0, 2), 1);
            due.is(behind[k] + " fault", x.fault(false), faults[k]);
            due.is(behind[k] + " place", x.fault(true), 32);
            due.is("the right one is there", x.packet(0, 5), 32);
            due.fails("the wrong one is not", Due.NO_SUCH, () -> x.packet(1, 0));
            due.is("the wrong one as the first", x.datagram(32, 2), 0);
            due.is("its fault", x.fault(false), faults[k]);
            due.is("its place", x.fault(true), 32);
            due.fails("none is there", Due.NO_SUCH, () -> x.packet(0, 0));
        }
        WireCodec y = Due.tape(FIRST + "00" + FIRST);
        due.is("it ends there", y.datagram(0, 2), 1);
    }

    private static void otherNames() {
        String[] others = {
            "e0 00000001 02 aabc 01 cc 14" + BODY, "e0 00000001 02 abbb 01 cc 14" + BODY,
            "e0 00000001 01 aa 01 cc 14" + BODY, "e0 00000001 03 aabb00 01 cc 14" + BODY,
            "e0 00000001 00 01 cc 14" + BODY, "40 aabc" + BODY, "40 abbb" + BODY
        };
        for (String other : others) {
            WireCodec x = Due.tape(FIRST + FIRST + other + FIRST);
            due.is(other, x.datagram(0, 2), 2);
            due.is(other + " fault", x.fault(false), OTHER);
            due.is(other + " place", x.fault(true), 64);
            due.fails("the other one is not there", Due.NO_SUCH, () -> x.packet(2, 0));
        }
        WireCodec fewer = Due.tape(FIRST + "40 aabb" + BODY);
        due.is("a short one with a shorter name", fewer.datagram(0, 1), 1);
        due.is("its fault", fewer.fault(false), OTHER);
        due.is("a short one with the same name", fewer.datagram(0, 2), 2);
        WireCodec by = Due.tape(FIRST + "e0 00000001 02 aabb 00 14" + BODY);
        due.is("another name BY is fine", by.datagram(0, 2), 2);
        WireCodec wrong = Due.tape(FIRST + "e0 00000001 02 aabc 01 cc 13" + BODY);
        due.is("wrong, and to another", wrong.datagram(0, 2), 1);
        due.is("wrong comes first", wrong.fault(false), CUT);
        WireCodec refused = Due.tape(FIRST + "d0 00000001 00 00");
        refused.datagram(0, 2);
        due.is("refused comes first", refused.fault(false), REFUSED);
        WireCodec empty = Due.tape("e0 00000001 00 00 14" + BODY + "40" + BODY);
        due.is("empty names are the same", empty.datagram(0, 0), 2);
        String twenty = "000102030405060708090a0b0c0d0e0f10111213";
        String longest = "e0 00000001 14" + twenty + "00 14" + BODY;
        due.is("names of 20", Due.tape(longest + longest).datagram(0, 0), 2);
        due.is("names of 20, the last byte another", Due.tape(longest + longest.replace("13", "12")).datagram(0, 0), 1);
        WireCodec first = Due.tape("e0 00000001 01 aa 00 14" + BODY + "e0 00000001 01 bb 00 14" + BODY
                + "e0 00000001 01 bb 00 14" + BODY);
        due.is("that of the first", first.datagram(0, 0), 1);
        due.is("from the second on", first.datagram(29, 0), 2);
    }

    private static void head() {
        WireCodec x = Due.tape("ffffff" + FIRST + "41 aabb" + BODY);
        due.is("a long one", x.head(3, 0), 15);
        due.is("a short one", x.head(35, 2), 38);
        due.is("a short one, names 0", x.head(35, 0), 36);
        due.is("its begin", x.packet(0, 3), 35);
        WireCodec first = Due.tape(FIRST);
        due.is("at 0", first.head(0, 20), 12);
        WireCodec y = Due.tape(FIRST + "00");
        due.is("what is behind does not count", y.head(0, 0), 12);
        due.is("no fault", y.fault(false), 0);
        WireCodec last = Due.filled(65536 - 21);
        last.feed(0x40, 1);
        Due.feed(last, BODY);
        due.is("the last of a full tape", last.head(65515, 0), 65516);
        due.is("one name's byte too many", last.head(65515, 1), -1);
    }

    private static void headWrong() {
        WireCodec x = Due.tape("00" + FIRST);
        due.is("wrong", x.head(0, 0), -1);
        due.is("right", x.head(1, 0), 13);
        due.is("wrong again", x.head(2, 0), -1);
        due.fails("the right one is forgotten", Due.NO_SUCH, () -> x.packet(0, 0));
        due.is("from the size", x.head(33, 0), -1);
        due.is("an empty tape", new WireCodec().head(0, 0), -1);
    }

    private static void headNoPlace() {
        for (int from : NO_PLACES) {
            due.refused("head(" + from + ", 0)", Due.ARGUMENT, x -> x.head(from, 0));
        }
        due.refused("head(size + 1, 0)", Due.ARGUMENT, x -> x.head(x.size() + 1, 0));
        due.refused("behind a full tape", Due.ARGUMENT, () -> Pasts.datagramRead(65536), x -> x.head(65537, 0));
        due.is("from the size", Due.filled(65536).head(65536, 0), -1);
    }

    private static void headNoNames() {
        for (int names : NO_NAMES) {
            due.refused("head(0, " + names + ")", Due.ARGUMENT, x -> x.head(0, names));
        }
        due.is("names 20", Due.tape("40" + Due.bytes(40)).head(0, 20), 21);
        due.is("names 0", Due.tape("40" + Due.bytes(40)).head(0, 0), 1);
    }

    private static void datagram() {
        WireCodec x = Due.tape(FIRST + FIRST + "00");
        due.is("up to the wrong one", x.datagram(0, 0), 2);
        due.is("from the second on", x.datagram(32, 0), 1);
        due.is("it begins", x.packet(0, 3), 32);
        due.fails("one more", Due.NO_SUCH, () -> x.packet(1, 3));
        due.is("the wrong one alone", x.datagram(64, 0), 0);
        due.is("its fault", x.fault(false), FIXED);
        due.is("nothing is left", x.datagram(65, 0), 0);
        due.is("no fault", x.fault(false), 0);
        due.is("no place", x.fault(true), -1);
        due.fails("no packet", Due.NO_SUCH, () -> x.packet(0, 0));
        WireCodec empty = new WireCodec();
        due.is("an empty tape", empty.datagram(0, 20), 0);
        due.is("no fault", empty.fault(false), 0);
        WireCodec full = Due.filled(65536);
        due.is("behind a full tape", full.datagram(65536, 0), 0);
        due.is("no fault", full.fault(false), 0);
    }

    private static void datagramRefused() {
        for (int from : NO_PLACES) {
            due.refused("datagram(" + from + ", 0)", Due.ARGUMENT, x -> x.datagram(from, 0));
        }
        due.refused("datagram(size + 1, 0)", Due.ARGUMENT, x -> x.datagram(x.size() + 1, 0));
        due.refused("behind a full tape", Due.ARGUMENT, () -> Pasts.framesRead(65536), x -> x.datagram(65537, 0));
        for (int names : NO_NAMES) {
            due.refused("datagram(0, " + names + ")", Due.ARGUMENT, x -> x.datagram(0, names));
            due.refused("datagram(size, " + names + ")", Due.ARGUMENT, x -> x.datagram(x.size(), names));
        }
        due.is("names 20", Due.tape("40" + Due.bytes(40)).datagram(0, 20), 1);
        due.is("names 0", Due.tape("40" + Due.bytes(40)).datagram(0, 0), 1);
    }

    private static void packet() {
        WireCodec x = Due.tape("01 c5" + LONG + "03 010203 4014" + BODY + "ff");
        x.head(1, 0);
        parts(x, 0, 0, 5, 1, 1, 17, 37, 7, 2, 10, 1, 12, 3);
        WireCodec y = Due.tape("01 ef" + LONG + "15" + BODY + "ab ff");
        y.head(1, 0);
        parts(y, 0, 2, 15, 1, 1, 12, 33, 7, 2, 10, 1, 0, 0);
        WireCodec z = Due.tape("01 7f aabbcc" + BODY + "ab");
        z.head(1, 3);
        z.feed(0, 8);
        parts(z, 0, 4, 63, 0, 1, 5, 26, 2, 3, 0, 0, 0, 0);
        WireCodec many = Due.tape(FIRST + "e1" + LONG + "14" + BODY + "42 aabb" + BODY);
        many.datagram(0, 2);
        due.is("the last, then the first", many.packet(2, 0), 4);
        due.is("the last, then the first", many.packet(0, 0), 0);
        due.is("the one between", many.packet(1, 1), 1);
        due.is("nothing of another one", many.packet(2, 9), 0);
        due.is("nothing of another one", many.packet(1, 10), 0);
    }

    private static void packetPlaces() {
        WireCodec x = Due.tape("01 c0 00000001 00 00 00 14" + BODY);
        due.is("all empty", x.head(1, 0), 10);
        parts(x, 0, 0, 0, 1, 1, 10, 30, 7, 0, 8, 0, 9, 0);
        WireCodec y = Due.tape("01 e0 00000001 00 00 14" + BODY);
        due.is("a HANDSHAKE has no token", y.head(1, 0), 9);
        parts(y, 0, 2, 0, 1, 1, 9, 29, 7, 0, 8, 0, 0, 0);
        WireCodec z = Due.tape("01 40" + BODY);
        due.is("a short one has no BY and no token", z.head(1, 0), 2);
        parts(z, 0, 4, 0, 0, 1, 2, 22, 2, 0, 0, 0, 0, 0);
    }

    private static void noPacket() {
        int[] none = {-1, 1, 2, 65536, Integer.MIN_VALUE, Integer.MAX_VALUE};
        for (int i : none) {
            due.refused("packet(" + i + ", 0)", Due.NO_SUCH, x -> x.packet(i, 0));
        }
        int[] noWhat = {-1, 12, 13, Integer.MIN_VALUE, Integer.MAX_VALUE};
        for (int what : noWhat) {
            due.refused("packet(0, " + what + ")", Due.NO_SUCH, x -> x.packet(0, what));
        }
        due.is("the last packet, the last what", Pasts.datagramRead(0).packet(0, 11), 2);
        due.refused("no frame is a packet", Due.NO_SUCH, () -> Pasts.framesRead(0), x -> x.packet(0, 0));
        WireCodec two = Due.tape(FIRST + FIRST);
        two.datagram(0, 0);
        due.is("the last", two.packet(1, 5), 64);
        due.fails("one more", Due.NO_SUCH, () -> two.packet(2, 5));
    }
}
