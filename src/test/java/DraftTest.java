/** Promises 13 to 16: draft, set, add, span. A draft is seen by what put writes of it. */
public final class DraftTest {
    private static final Due due = new Due("DraftTest");
    private static final long MAX = Due.GREATEST;

    public static void main(String[] args) {
        tests(due);
        due.end();
    }

    static void tests(Due d) {
        d.test("Promise 13", "The draft is empty: all fields 0, no data, no ranges.", DraftTest::draft);
        d.test("Promise 14", "A field of the draft: 0 a, 1 b, 2 c, 3 d, 9 .. 11 counts.", DraftTest::set);
        d.test("Promise 14", "Throws IllegalArgumentException for another what.", DraftTest::setAnother);
        d.test("Promise 15", "Puts the lowest n bytes of v, highest first, behind the draft's data: how many it has.",
                DraftTest::add);
        d.test("Promise 15", "Throws IllegalArgumentException when n is not 1 .. 8", DraftTest::addNoWord);
        d.test("Promise 15", "IllegalStateException when it would have more than 2000.", DraftTest::addTooMuch);
        d.test("Promise 16", "One more range, below the last one with at least one number between.", DraftTest::span);
        d.test("Promise 16", "Throws IllegalArgumentException when it is not 0 <= low <= high", DraftTest::spanNoRange);
        d.test("Promise 16", "or not so far below", DraftTest::spanNotBelow);
        d.test("Promise 16", "IllegalStateException when there are 500.", DraftTest::spanTooMany);
    }

    private static void writes(WireCodec x, int kind, String hex) {
        int size = x.size();
        x.put(kind);
        due.tapeIs("put(" + kind + ")", x, size, hex);
    }

    private static void draft() {
        WireCodec x = Pasts.framesRead(0);
        int size = x.size();
        x.draft();
        due.is("the tape stays", x.size(), size);
        due.is("what was read stays", x.frame(0, 0), 5);
        due.is("the fault stays", x.fault(false), 2);
        due.is("parameters stay", x.parameter(4), 5);
        writes(x, 4, "04 00 00 00");
        writes(x, 8, "08 00");
        writes(x, 27, "1b 0000000000000000");
        due.fails("no ranges", Due.ARGUMENT, () -> x.put(2));
        due.fails("no data", Due.ARGUMENT, () -> x.put(7));
        x.span(9, 9);
        writes(x, 3, "03 09 00 00 00 00 00 00");
        due.is("data begins anew", x.add(0xcc, 1), 1);
        writes(x, 7, "07 01 cc");
        writes(x, 7, "07 01 cc");
        x.draft();
        x.draft();
        writes(x, 29, "1d 00 00");
        refilled();
    }

    /** What was full has all its room again. */
    private static void refilled() {
        WireCodec x = new WireCodec();
        Due.add(x, Due.bytes(2000));
        x.draft();
        due.is("data", x.add(1, 8), 8);
        WireCodec y = new WireCodec();
        for (int k = 0; k < 500; k++) {
            y.span(1000 - 2 * k, 1000 - 2 * k);
        }
        y.draft();
        y.span(MAX, MAX);
        due.is("ranges", y.put(2), 1 + 8 + 1 + 1 + 1);
    }

    private static void set() {
        WireCodec x = new WireCodec();
        x.set(0, 1);
        x.set(1, 2);
        x.set(2, 3);
        writes(x, 4, "04 01 02 03");
        x.set(0, 4);
        writes(x, 4, "04 04 02 03");
        x.set(2, 0);
        x.set(3, 1);
        writes(x, 8, "0e 04 02 00");
        x.span(5, 5);
        x.set(9, 7);
        x.set(10, 8);
        x.set(11, 64);
        writes(x, 3, "03 05 02 00 00 07 08 4040");
        long[] any = {Long.MIN_VALUE, -1, 0, MAX, MAX + 1, Long.MAX_VALUE};
        for (long v : any) {
            x.set(0, v);
            writes(x, 26, "1a" + String.format("%016x", v));
            for (int what = 1; what <= 11; what += what == 3 ? 6 : 1) {
                x.set(what, v);
            }
        }
        due.is("fields that a PING has not", x.put(1), x.size());
    }

    private static void setAnother() {
        int[] none = {-1, 4, 5, 6, 7, 8, 12, 13, Integer.MIN_VALUE, Integer.MAX_VALUE};
        for (int what : none) {
            due.refused("set(" + what + ", 1)", Due.ARGUMENT, x -> x.set(what, 1));
        }
    }

    private static void add() {
        WireCodec x = new WireCodec();
        for (int n = 1; n <= 8; n++) {
            due.is("add(.., " + n + ")", x.add(0xf1f2f3f4f5f6f7f8L, n), n * (n + 1) / 2);
        }
        writes(x, 7, "07 24 f8 f7f8 f6f7f8 f5f6f7f8 f4f5f6f7f8 f3f4f5f6f7f8 f2f3f4f5f6f7f8 f1f2f3f4f5f6f7f8");
        WireCodec y = new WireCodec();
        y.add(0x1aa, 1);
        y.add(-2, 8);
        y.add(0, 1);
        writes(y, 7, "07 0a aa fffffffffffffffe 00");
        WireCodec z = Pasts.framesRead(0);
        due.is("how many it has", z.add(1, 2), 5);
        due.is("what was read stays", z.frame(0, 0), 5);
    }

    private static void addNoWord() {
        int[] none = {0, 9, -1, 16, 257, Integer.MIN_VALUE, Integer.MAX_VALUE};
        for (int n : none) {
            due.refused("add(1, " + n + ")", Due.ARGUMENT, x -> x.add(1, n));
        }
        due.is("add(1, 1)", new WireCodec().add(1, 1), 1);
        due.is("add(1, 8)", new WireCodec().add(1, 8), 8);
    }

    private static WireCodec withData(int bytes) {
        WireCodec x = new WireCodec();
        Due.add(x, Due.bytes(bytes));
        return x;
    }

    private static void addTooMuch() {
        for (int n = 1; n <= 8; n++) {
            int bytes = n;
            due.is("up to 2000", withData(2000 - n).add(1, n), 2000);
            due.refused("2001", Due.STATE, () -> withData(2001 - bytes), x -> x.add(1, bytes));
            due.refused("all are there", Due.STATE, () -> withData(2000), x -> x.add(1, bytes));
        }
        WireCodec y = withData(1999);
        due.fails("2 in 1", Due.STATE, () -> y.add(1, 2));
        due.is("1 in 1", y.add(0x77, 1), 2000);
        due.is("all of it is written", y.put(7), 1 + 2 + 2000);
        due.is("its last byte", y.at(2002), 0x77);
    }

    private static void span() {
        WireCodec x = new WireCodec();
        x.span(95, 100);
        x.span(90, 93);
        x.span(88, 88);
        x.span(0, 0);
        writes(x, 2, "02 4064 00 03 05 00 03 00 00 4056 00");
        WireCodec y = new WireCodec();
        y.span(2, Long.MAX_VALUE);
        y.span(0, 0);
        due.fails("a range that reading can't have", Due.ARGUMENT, () -> y.put(2));
        WireCodec z = new WireCodec();
        z.span(0, 0);
        writes(z, 2, "02 00 00 00 00");
        z.draft();
        z.span(0, MAX);
        writes(z, 2, "02 ffffffffffffffff 00 00 ffffffffffffffff");
    }

    private static void spanNoRange() {
        long[][] none = {{-1, 5}, {-1, -1}, {-5, -5}, {6, 5}, {1, 0}, {0, -1}, {Long.MIN_VALUE, 0},
            {Long.MIN_VALUE, Long.MAX_VALUE}, {Long.MAX_VALUE, Long.MIN_VALUE}};
        for (long[] range : none) {
            due.refused("span(" + range[0] + ", " + range[1] + ")", Due.ARGUMENT, x -> x.span(range[0], range[1]));
        }
        WireCodec y = new WireCodec();
        y.span(5, 5);
        writes(y, 2, "02 05 00 00 00");
    }

    private static WireCodec spanned(long low, long high) {
        WireCodec x = new WireCodec();
        x.span(low, high);
        return x;
    }

    private static void spanNotBelow() {
        long[][] near = {{200, 300}, {95, 100}, {96, 97}, {95, 95}, {90, 95}, {94, 94}, {90, 94}, {0, 94}, {0, Long.MAX_VALUE}};
        for (long[] range : near) {
            due.refused("span(" + range[0] + ", " + range[1] + ")", Due.ARGUMENT, () -> spanned(95, 100),
                    x -> x.span(range[0], range[1]));
        }
        WireCodec y = spanned(95, 100);
        y.span(93, 93);
        writes(y, 2, "02 4064 00 01 05 00 00");
        due.refused("nothing is below 0", Due.ARGUMENT, () -> spanned(0, 0), x -> x.span(0, 0));
        due.refused("just below 1", Due.ARGUMENT, () -> spanned(1, 1), x -> x.span(0, 0));
        WireCodec z = spanned(2, 2);
        z.span(0, 0);
        writes(z, 2, "02 02 00 01 00 00 00");
        WireCodec last = spanned(95, 100);
        last.span(80, 85);
        due.fails("below the first, not below the last", Due.ARGUMENT, () -> last.span(90, 92));
        due.fails("one number between is too few when it is none", Due.ARGUMENT, () -> last.span(79, 79));
        last.span(78, 78);
        writes(last, 2, "02 4064 00 02 05 08 05 00 00");
    }

    private static void spanTooMany() {
        WireCodec x = new WireCodec();
        for (int k = 0; k < 499; k++) {
            x.span(2000 - 2 * k, 2000 - 2 * k);
        }
        x.span(1002, 1002);
        due.fails("501", Due.STATE, () -> x.span(5, 5));
        due.is("500 are written", x.put(2), 1 + 2 + 1 + 2 + 1 + 499 * 2);
        due.is("frames", x.frames(0, 0), 1);
        due.is("ranges", x.frame(0, 6), 500);
        due.is("the last", x.range(0, 499, false), 1002);
        due.fails("none behind it", Due.NO_SUCH, () -> x.range(0, 500, false));
    }
}
