import java.util.Random;

/** 'Terms', how a packet's number is cut and grows again, and promises 22 and 23: cut, grow. */
public final class PacketNumbersTest {
    private static final Due due = new Due("PacketNumbersTest");
    private static final long MAX = Due.GREATEST;
    private static final long[] MOST_AHEAD = {128, 32768, 8388608, 2147483648L};

    public static void main(String[] args) {
        tests(due);
        due.end();
    }

    static void tests(Due d) {
        d.test("Promises 22, 23, Terms",
                "A packet's number, 0 .. 4611686018427387903, is CUT to its lowest 1 .. 4 bytes.",
                PacketNumbersTest::cutAndGrown);
        d.test("Promise 22, Terms",
                "With A the largest one acknowledged (-1 for none) the fewest bytes such that number - A is at most"
                + " 128, 32768, 8388608, 2147483648.", PacketNumbersTest::fewestBytes);
        d.test("Promise 23, Terms",
                "It GROWS again from the largest one received (-1 for none): of 0 .. 4611686018427387903, the one"
                + " with these lowest bytes that is nearest to that and 1", PacketNumbersTest::nearest);
        d.test("Promise 23, Terms", "if two are, the greater one.", PacketNumbersTest::theGreater);
        d.test("Promise 22", "To how many bytes a packet's number is cut", PacketNumbersTest::cut);
        d.test("Promise 22", "0 when it can't be (more than 4).", PacketNumbersTest::cutNever);
        d.test("Promise 22", "Throws IllegalArgumentException when number or acknowledged is not as said",
                PacketNumbersTest::cutNotAsSaid);
        d.test("Promise 22", "or number is not above acknowledged.", PacketNumbersTest::cutNotAbove);
        d.test("Promise 23", "What n bytes grow to.", PacketNumbersTest::grow);
        d.test("Promise 23", "Throws IllegalArgumentException when largest is not -1 .. 4611686018427387903",
                PacketNumbersTest::growNoLargest);
        d.test("Promise 23", "n not 1 .. 4", PacketNumbersTest::growNoSize);
        d.test("Promise 23", "or bytes not below 256 to the n, or below 0.", PacketNumbersTest::growNoBytes);
    }

    /** What is cut grows again to the same when all up to the acknowledged one were received, and no more. */
    private static void cutAndGrown() {
        Random random = new Random(22);
        for (int k = 0; k < 2000; k++) {
            long acknowledged = (random.nextLong() & MAX) >> random.nextInt(62);
            long number = Math.min(MAX, acknowledged + 1 + (random.nextLong() >>> 33 + random.nextInt(31)));
            if (number > acknowledged) {
                grownAgain(number, acknowledged);
            }
        }
        for (long most : MOST_AHEAD) {
            grownAgain(most - 1, -1);
            grownAgain(most, 0);
            grownAgain(most + 1000, 1000);
            grownAgain(MAX, MAX - most);
        }
        grownAgain(0, -1);
        grownAgain(MAX, MAX - 1);
    }

    private static void grownAgain(long number, long acknowledged) {
        WireCodec x = new WireCodec();
        int n = x.cut(number, acknowledged);
        if (n > 0) {
            long bytes = number & (1L << 8 * n) - 1;
            due.is("grow of " + number + " cut to " + n, x.grow(acknowledged, bytes, n), number);
        } else {
            due.holds(number + " is too far ahead of " + acknowledged, number - acknowledged > 2147483648L);
        }
    }

    private static void fewestBytes() {
        WireCodec x = new WireCodec();
        for (int k = 0; k < 4; k++) {
            int more = k < 3 ? k + 2 : 0;
            due.is("the most ahead of 1000", x.cut(1000 + MOST_AHEAD[k], 1000), k + 1);
            due.is("one more", x.cut(1001 + MOST_AHEAD[k], 1000), more);
            due.is("the most ahead of none", x.cut(MOST_AHEAD[k] - 1, -1), k + 1);
            due.is("one more", x.cut(MOST_AHEAD[k], -1), more);
            due.is("the most ahead of 0", x.cut(MOST_AHEAD[k], 0), k + 1);
            due.is("one more", x.cut(MOST_AHEAD[k] + 1, 0), more);
            due.is("the greatest, the most ahead", x.cut(MAX, MAX - MOST_AHEAD[k]), k + 1);
            due.is("one more", x.cut(MAX, MAX - MOST_AHEAD[k] - 1), more);
        }
    }

    private static void nearest() {
        long[] starts = {-1, 0, 50, 127, 128, 255, 256, 300, 1000, MAX - 700, MAX - 300, MAX - 256, MAX - 255, MAX - 128,
            MAX - 127, MAX - 1, MAX};
        for (long largest : starts) {
            WireCodec x = new WireCodec();
            for (int bytes = 0; bytes < 256; bytes++) {
                due.is("grow(" + largest + ", " + bytes + ", 1)", x.grow(largest, bytes, 1), search(largest + 1, bytes));
            }
        }
        WireCodec y = new WireCodec();
        for (int n = 1; n <= 4; n++) {
            long window = 1L << 8 * n;
            due.is("none is below 0", y.grow(-1, window - 1, n), window - 1);
            due.is("none is beyond", y.grow(MAX, 0, n), MAX - window + 1);
            due.is("the greatest of all", y.grow(MAX, window - 1, n), MAX);
            due.is("the greatest of all", y.grow(MAX - 1, window - 1, n), MAX);
            due.is("just the next", y.grow(5 * window - 1, 0, n), 5 * window);
            due.is("the one before", y.grow(5 * window - 1, window - 1, n), 5 * window - 1);
        }
    }

    /** Looks at every number round about, the greater one first. */
    private static long search(long next, int bytes) {
        for (long away = 0; away < 600; away++) {
            if (isLike(next + away, bytes)) {
                return next + away;
            }
            if (isLike(next - away, bytes)) {
                return next - away;
            }
        }
        return -1;
    }

    private static boolean isLike(long number, int bytes) {
        return number >= 0 && number <= MAX && (number & 255) == bytes;
    }

    private static void theGreater() {
        WireCodec x = new WireCodec();
        for (int n = 1; n <= 4; n++) {
            long window = 1L << 8 * n;
            long half = window / 2;
            due.is("two are as near", x.grow(half - 1, 0, n), window);
            due.is("the lower is nearer", x.grow(half - 2, 0, n), 0);
            due.is("the greater is nearer", x.grow(half, 0, n), window);
            due.is("two are as near, far up", x.grow(7 * window + half - 1, 0, n), 8 * window);
            due.is("the lower is nearer", x.grow(7 * window + half - 2, 0, n), 7 * window);
            due.is("the greater would be beyond", x.grow(MAX - half, 0, n), MAX + 1 - window);
            due.is("the greater is the greatest", x.grow(MAX - half - 1, window - 1, n), MAX);
        }
    }

    private static void cut() {
        WireCodec x = new WireCodec();
        due.is("the first", x.cut(0, -1), 1);
        due.is("the next", x.cut(6, 5), 1);
        due.is("the last", x.cut(MAX, MAX - 1), 1);
        due.is("of the transport's own examples", x.cut(0xac5c02L, 0xabe8b3L), 2);
        due.is("of the transport's own examples", x.cut(0xace8feL, 0xabe8b3L), 3);
        WireCodec y = Pasts.framesRead(0);
        y.cut(6, 5);
        due.is("it changes nothing", y.fault(false), 2);
    }

    private static void cutNever() {
        WireCodec x = new WireCodec();
        due.is("4 bytes", x.cut(2147483648L, 0), 4);
        due.is("more than 4", x.cut(2147483649L, 0), 0);
        due.is("4 bytes", x.cut(2147483647L, -1), 4);
        due.is("more than 4", x.cut(2147483648L, -1), 0);
        due.is("the last of all", x.cut(MAX, -1), 0);
        due.is("far more", x.cut(1L << 40, 5), 0);
        due.is("far more, with low bits 0", x.cut((1L << 32) + 5, 5), 0);
    }

    private static void cutNotAsSaid() {
        long[] noNumber = {-1, -2, MAX + 1, Long.MIN_VALUE, Long.MAX_VALUE};
        for (long number : noNumber) {
            due.refused("cut(" + number + ", -1)", Due.ARGUMENT, x -> x.cut(number, -1));
        }
        due.refused("number beyond", Due.ARGUMENT, x -> x.cut(MAX + 1, MAX));
        long[] none = {-2, MAX + 1, Long.MIN_VALUE, Long.MAX_VALUE};
        for (long acknowledged : none) {
            due.refused("cut(5, " + acknowledged + ")", Due.ARGUMENT, x -> x.cut(5, acknowledged));
        }
        due.is("none acknowledged", new WireCodec().cut(5, -1), 1);
    }

    private static void cutNotAbove() {
        due.refused("the same", Due.ARGUMENT, x -> x.cut(5, 5));
        due.refused("below", Due.ARGUMENT, x -> x.cut(4, 5));
        due.refused("0 and 0", Due.ARGUMENT, x -> x.cut(0, 0));
        due.refused("the greatest", Due.ARGUMENT, x -> x.cut(MAX, MAX));
        due.is("one above", new WireCodec().cut(6, 5), 1);
        due.is("0 above none", new WireCodec().cut(0, -1), 1);
    }

    private static void grow() {
        WireCodec x = new WireCodec();
        due.is("of the transport's own example", x.grow(0xa82f30eaL, 0x9b32, 2), 0xa82f9b32L);
        due.is("1 byte", x.grow(300, 44, 1), 300);
        due.is("3 bytes", x.grow(16777215, 1, 3), 16777217);
        due.is("4 bytes", x.grow(4294967295L, 4294967295L, 4), 4294967295L);
        due.is("from none", x.grow(-1, 0, 1), 0);
        WireCodec y = Pasts.datagramRead(0);
        y.grow(5, 5, 1);
        due.is("it changes nothing", y.fault(false), 6);
    }

    private static void growNoLargest() {
        long[] none = {-2, MAX + 1, Long.MIN_VALUE, Long.MAX_VALUE};
        for (long largest : none) {
            due.refused("grow(" + largest + ", 0, 1)", Due.ARGUMENT, x -> x.grow(largest, 0, 1));
        }
        due.is("the least", new WireCodec().grow(-1, 7, 1), 7);
        due.is("the greatest", new WireCodec().grow(MAX, 255, 1), MAX);
    }

    private static void growNoSize() {
        int[] none = {0, 5, -1, 8, 33, Integer.MIN_VALUE, Integer.MAX_VALUE};
        for (int n : none) {
            due.refused("grow(5, 0, " + n + ")", Due.ARGUMENT, x -> x.grow(5, 0, n));
        }
        due.is("n 1", new WireCodec().grow(5, 6, 1), 6);
        due.is("n 4", new WireCodec().grow(5, 6, 4), 6);
    }

    private static void growNoBytes() {
        for (int n = 1; n <= 4; n++) {
            int size = n;
            long beyond = 1L << 8 * n;
            due.is("the most in " + n, new WireCodec().grow(-1, beyond - 1, n), beyond - 1);
            due.refused("beyond " + n, Due.ARGUMENT, x -> x.grow(5, beyond, size));
            due.refused("most", Due.ARGUMENT, x -> x.grow(5, Long.MAX_VALUE, size));
            due.is("0", new WireCodec().grow(-1, 0, n), 0);
            due.refused("-1", Due.ARGUMENT, x -> x.grow(5, -1, size));
            due.refused("least", Due.ARGUMENT, x -> x.grow(5, Long.MIN_VALUE, size));
        }
    }
}
