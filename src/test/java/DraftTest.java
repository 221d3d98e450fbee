/** Promises 13 to 17: draft, set, add, span, put. */
public final class DraftTest {
    private static final Due due = new Due("DraftTest");

    public static void main(String[] args) {
        draft();
        set();
        add();
        span();
        plainKinds();
        padding();
        stream();
        cryptoAndToken();
        newName();
        words();
        closes();
        ack();
        ackWrong();
        noSuchKind();
        room();
        manyRanges();
        due.end();
    }

    private static WireCodec drafted(long a, long b, long c, long d, String data) {
        WireCodec x = new WireCodec();
        x.set(0, a);
        x.set(1, b);
        x.set(2, c);
        x.set(3, d);
        Due.add(x, data);
        return x;
    }

    private static void writes(WireCodec x, int kind, String hex) {
        int size = x.size();
        due.is("put(" + kind + ")", x.put(kind), size + hex.replace(" ", "").length() / 2);
        due.tapeIs("put(" + kind + ")", x, size, hex);
    }

    private static void refuses(String why, WireCodec x, int kind) {
        int size = x.size();
        due.fails(why, Due.ARGUMENT, () -> x.put(kind));
        due.is(why + ", size", x.size(), size);
    }

    private static void draft() {
        WireCodec x = drafted(1, 2, 3, 1, "aabb");
        x.set(9, 7);
        x.set(10, 8);
        x.set(11, 9);
        x.span(5, 6);
        x.draft();
        writes(x, 4, "04 00 00 00");
        refuses("no ranges", x, 3);
        refuses("no data", x, 7);
        x.span(9, 9);
        writes(x, 3, "03 09 00 00 00 00 00 00");
        due.is("data begins anew", x.add(0xcc, 1), 1);
        writes(x, 7, "07 01 cc");
        writes(x, 7, "07 01 cc");
        writes(x, 8, "08 00 cc");
    }

    private static void set() {
        WireCodec x = new WireCodec();
        int[] wrong = {-1, 4, 5, 6, 7, 8, 12, Integer.MIN_VALUE, Integer.MAX_VALUE};
        for (int what : wrong) {
            due.fails("set(" + what + ")", Due.ARGUMENT, () -> x.set(what, 1));
        }
        x.set(0, 1);
        x.set(1, 2);
        x.set(2, 3);
        x.set(0, 4);
        writes(x, 4, "04 04 02 03");
        x.set(3, Long.MIN_VALUE);
        x.set(9, -1);
        writes(x, 4, "04 04 02 03");
    }

    private static void add() {
        WireCodec x = new WireCodec();
        due.is("add 1", x.add(0x1aa, 1), 1);
        due.is("add 8", x.add(-2, 8), 9);
        due.is("add 3", x.add(0x010203, 3), 12);
        due.fails("n 0", Due.ARGUMENT, () -> x.add(1, 0));
        due.fails("n 9", Due.ARGUMENT, () -> x.add(1, 9));
        due.fails("n -1", Due.ARGUMENT, () -> x.add(1, -1));
        writes(x, 7, "07 0c aa fffffffffffffffe 010203");
        x.draft();
        for (int k = 0; k < 249; k++) {
            x.add(k, 8);
        }
        due.is("1999", x.add(1, 7), 1999);
        due.fails("2001", Due.STATE, () -> x.add(1, 2));
        due.fails("argument ahead of state", Due.ARGUMENT, () -> x.add(1, 9));
        due.is("2000", x.add(0x77, 1), 2000);
        due.fails("2001", Due.STATE, () -> x.add(1, 1));
        due.is("put all of it", x.put(7), 14 + 3 + 2000);
        due.is("its last byte", x.at(x.size() - 1), 0x77);
    }

    private static void span() {
        WireCodec x = new WireCodec();
        due.fails("low below 0", Due.ARGUMENT, () -> x.span(-1, 5));
        due.fails("low above high", Due.ARGUMENT, () -> x.span(6, 5));
        due.fails("both below 0", Due.ARGUMENT, () -> x.span(-5, -5));
        x.span(95, 100);
        due.fails("one above", Due.ARGUMENT, () -> x.span(200, 300));
        due.fails("the same", Due.ARGUMENT, () -> x.span(95, 100));
        due.fails("just below", Due.ARGUMENT, () -> x.span(90, 94));
        x.span(90, 93);
        due.fails("low below 0 behind others", Due.ARGUMENT, () -> x.span(-1, 5));
        x.span(0, 0);
        due.fails("nothing is below 0", Due.ARGUMENT, () -> x.span(0, 0));
        writes(x, 2, "02 4064 00 02 05 00 03 4058 00");
        x.draft();
        x.span(1, 1);
        due.fails("just below 1", Due.ARGUMENT, () -> x.span(0, 0));
        x.draft();
        x.span(0, Long.MAX_VALUE);
        refuses("the greatest is no number", x, 2);
        x.draft();
        for (int k = 0; k < 500; k++) {
            x.span(2000 - 2 * k, 2000 - 2 * k);
        }
        due.fails("argument ahead of state", Due.ARGUMENT, () -> x.span(1002, 1002));
        due.fails("501", Due.STATE, () -> x.span(5, 5));
    }

    private static void plainKinds() {
        writes(drafted(-1, -1, -1, -1, "aa"), 1, "01");
        writes(drafted(-1, -1, -1, -1, "aa"), 30, "1e");
        writes(drafted(64, 16384, 1073741824, -1, "aa"), 4, "04 4040 80004000 c000000040000000");
        writes(drafted(Due.GREATEST, 63, -1, -1, "aa"), 5, "05 ffffffffffffffff 3f");
        writes(drafted(7, 8, -1, -1, ""), 17, "11 07 08");
        writes(drafted(7, 8, -1, -1, ""), 21, "15 07 08");
        int[] withA = {16, 18, 19, 20, 22, 23, 25};
        for (int kind : withA) {
            String first = String.format("%02x", kind);
            writes(drafted(7, -1, -1, -1, "aa"), kind, first + "07");
            writes(drafted(Due.MOST_STREAMS, -1, -1, -1, "aa"), kind, first + "d000000000000000");
            refuses("a below 0", drafted(-1, 0, 0, 0, ""), kind);
            refuses("a beyond", drafted(Due.GREATEST + 1, 0, 0, 0, ""), kind);
        }
        int[] ofStreams = {18, 19, 22, 23};
        for (int kind : ofStreams) {
            refuses("too many streams", drafted(Due.MOST_STREAMS + 1, 0, 0, 0, ""), kind);
        }
        writes(drafted(Due.MOST_STREAMS + 1, 0, 0, 0, ""), 16, "10 d000000000000001");
        int[] withB = {4, 5, 17, 21};
        for (int kind : withB) {
            refuses("a", drafted(-1, 0, 0, 0, ""), kind);
            refuses("b below 0", drafted(0, -1, 0, 0, ""), kind);
            refuses("b beyond", drafted(0, Due.GREATEST + 1, 0, 0, ""), kind);
        }
        refuses("c below 0", drafted(0, 0, -1, 0, ""), 4);
        refuses("c beyond", drafted(0, 0, Due.GREATEST + 1, 0, ""), 4);
    }

    private static void padding() {
        writes(drafted(1, -1, -1, -1, "aa"), 0, "00");
        writes(drafted(5, -1, -1, -1, "aa"), 0, "0000000000");
        due.is("2000", drafted(2000, 0, 0, 0, "").put(0), 2000);
        refuses("0", drafted(0, 0, 0, 0, ""), 0);
        refuses("-1", drafted(-1, 0, 0, 0, ""), 0);
        refuses("2001", drafted(2001, 0, 0, 0, ""), 0);
        refuses("2 ^ 32 + 1", drafted(4294967297L, 0, 0, 0, ""), 0);
    }

    private static void stream() {
        writes(drafted(5, 0, 0, 0, "aabb"), 8, "08 05 aabb");
        writes(drafted(5, 0, 1, 0, "aabb"), 8, "09 05 aabb");
        writes(drafted(5, 0, 0, 1, "aabb"), 8, "0a 05 02 aabb");
        writes(drafted(5, 0, 1, 1, ""), 8, "0b 05 00");
        writes(drafted(5, 9, 0, 0, "aabb"), 8, "0c 05 09 aabb");
        writes(drafted(5, 9, 1, 0, ""), 8, "0d 05 09");
        writes(drafted(5, 9, 0, 1, "aabb"), 8, "0e 05 09 02 aabb");
        writes(drafted(5, 64, 1, 1, "aabb"), 8, "0f 05 4040 02 aabb");
        refuses("a", drafted(-1, 0, 0, 0, ""), 8);
        refuses("b", drafted(0, -1, 0, 0, ""), 8);
        refuses("b beyond", drafted(0, Due.GREATEST + 1, 0, 0, ""), 8);
        refuses("c 2", drafted(0, 0, 2, 0, ""), 8);
        refuses("c -1", drafted(0, 0, -1, 0, ""), 8);
        refuses("d 2", drafted(0, 0, 0, 2, ""), 8);
        refuses("d -1", drafted(0, 0, 0, -1, ""), 8);
        writes(drafted(5, Due.GREATEST, 0, 1, ""), 8, "0e 05 ffffffffffffffff 00");
        writes(drafted(5, Due.GREATEST - 1, 0, 1, "aa"), 8, "0e 05 fffffffffffffffe 01 aa");
        refuses("b and data", drafted(5, Due.GREATEST - 1, 0, 1, "aabb"), 8);
        refuses("b and data", drafted(5, Due.GREATEST, 0, 0, "aa"), 8);
        for (int kind = 9; kind < 16; kind++) {
            refuses("kind " + kind, drafted(0, 0, 0, 0, "aa"), kind);
        }
    }

    private static void cryptoAndToken() {
        writes(drafted(-1, 9, -1, -1, "aabb"), 6, "06 09 02 aabb");
        writes(drafted(-1, 0, -1, -1, ""), 6, "06 00 00");
        refuses("b", drafted(0, -1, 0, 0, ""), 6);
        refuses("b and data", drafted(0, Due.GREATEST, 0, 0, "aa"), 6);
        writes(drafted(-1, Due.GREATEST - 1, 0, 0, "aa"), 6, "06 fffffffffffffffe 01 aa");
        writes(drafted(-1, -1, -1, -1, "aabb"), 7, "07 02 aabb");
        writes(drafted(-1, -1, -1, -1, Due.bytes(64)), 7, "07 4040" + Due.bytes(64));
        refuses("empty", drafted(0, 0, 0, 0, ""), 7);
    }

    private static void newName() {
        String secret = "000102030405060708090a0b0c0d0e0f";
        writes(drafted(5, 5, -1, -1, "aabb" + secret), 24, "18 05 05 02 aabb" + secret);
        writes(drafted(5, 0, -1, -1, "aa" + secret), 24, "18 05 00 01 aa" + secret);
        writes(drafted(5, 0, -1, -1, Due.bytes(20) + secret), 24, "18 05 00 14" + Due.bytes(20) + secret);
        refuses("no name", drafted(5, 5, 0, 0, secret), 24);
        refuses("no data", drafted(5, 5, 0, 0, ""), 24);
        refuses("half a secret", drafted(5, 5, 0, 0, "aabb"), 24);
        refuses("a long name", drafted(5, 5, 0, 0, Due.bytes(37)), 24);
        refuses("b above a", drafted(5, 6, 0, 0, "aa" + secret), 24);
        refuses("b below 0", drafted(5, -1, 0, 0, "aa" + secret), 24);
        refuses("a beyond", drafted(Due.GREATEST + 1, 0, 0, 0, "aa" + secret), 24);
    }

    private static void words() {
        writes(drafted(-2, -1, -1, -1, "aa"), 26, "1a fffffffffffffffe");
        writes(drafted(Long.MIN_VALUE, -1, -1, -1, "aa"), 27, "1b 8000000000000000");
        writes(drafted(5, -1, -1, -1, ""), 27, "1b 0000000000000005");
    }

    private static void closes() {
        writes(drafted(1, 2, -1, -1, "aabb"), 28, "1c 01 02 02 aabb");
        writes(drafted(1, Due.GREATEST, -1, -1, ""), 28, "1c 01 ffffffffffffffff 00");
        writes(drafted(1, -1, -1, -1, "aabb"), 29, "1d 01 02 aabb");
        refuses("a", drafted(-1, 0, 0, 0, ""), 28);
        refuses("b", drafted(0, -1, 0, 0, ""), 28);
        refuses("a", drafted(-1, 0, 0, 0, ""), 29);
    }

    private static void ack() {
        WireCodec x = drafted(-1, 12, -1, -1, "aa");
        x.set(9, 7);
        x.set(10, 64);
        x.set(11, 9);
        x.span(95, 100);
        x.span(90, 93);
        x.span(80, 80);
        writes(x, 2, "02 4064 0c 02 05 00 03 08 00");
        writes(x, 3, "03 4064 0c 02 05 00 03 08 00 07 4040 09");
        due.is("both are read", x.frames(0, 0), 2);
        due.is("the least of the last", x.range(1, 2, false), 80);
        x.draft();
        x.set(1, 64);
        x.span(3, 3);
        writes(x, 2, "02 03 4040 00 00");
        x.draft();
        x.span(0, Due.GREATEST);
        writes(x, 2, "02 ffffffffffffffff 00 00 ffffffffffffffff");
    }

    private static void ackWrong() {
        WireCodec x = drafted(5, 0, 0, 0, "");
        refuses("no range", x, 2);
        refuses("no range", x, 3);
        x.span(5, Due.GREATEST + 1);
        refuses("no number", x, 2);
        x.draft();
        x.span(5, 5);
        x.set(1, -1);
        refuses("b", x, 2);
        x.set(1, Due.GREATEST + 1);
        refuses("b", x, 3);
        x.set(1, 0);
        for (int what = 9; what < 12; what++) {
            x.set(what, -1);
            refuses("a count", x, 3);
            due.is("no counts", x.put(2), x.size());
            x.set(what, Due.GREATEST + 1);
            refuses("a count", x, 3);
            x.set(what, 0);
        }
        due.is("size", x.put(3), 3 * 5 + 8);
    }

    private static void noSuchKind() {
        int[] wrong = {-1, 31, 32, 64, 255, 256, 258, Integer.MIN_VALUE, Integer.MAX_VALUE};
        for (int kind : wrong) {
            refuses("kind " + kind, drafted(1, 1, 1, 1, "aa"), kind);
        }
    }

    private static void room() {
        WireCodec x = Due.filled(65530);
        due.is("frames", x.frames(0, 0), 1);
        x.set(0, 5);
        Due.add(x, "aabbccdd");
        due.fails("one byte too many", Due.STATE, () -> x.put(29));
        due.is("nothing is written", x.size(), 65530);
        due.fails("nothing is written", Due.NO_SUCH, () -> x.at(65530));
        due.is("what was read stays", x.frame(0, 0), 65530);
        x.set(0, 7);
        due.fails("padding", Due.STATE, () -> x.put(0));
        x.set(0, -1);
        due.fails("argument ahead of room", Due.ARGUMENT, () -> x.put(29));
        writes(x, 7, "07 04 aabbccdd");
        due.is("size", x.size(), 65536);
        due.fails("full", Due.STATE, () -> x.put(1));
    }

    private static void manyRanges() {
        WireCodec x = new WireCodec();
        for (int k = 0; k < 500; k++) {
            long high = Due.GREATEST - k * 8000000000000000L;
            x.span(high - 3000000000000000L, high);
        }
        due.is("put", x.put(2), 1 + 8 + 1 + 2 + 8 + 499 * 16);
        due.is("frames", x.frames(0, 0), 1);
        due.is("ranges", x.frame(0, 6), 500);
        due.is("least", x.range(0, 499, false), Due.GREATEST - 499 * 8000000000000000L - 3000000000000000L);
        due.is("greatest", x.range(0, 499, true), Due.GREATEST - 499 * 8000000000000000L);
    }
}
