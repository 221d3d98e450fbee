/** Promises 22 and 23: cut, grow. */
public final class PacketNumbersTest {
    private static final Due due = new Due("PacketNumbersTest");

    public static void main(String[] args) {
        cut();
        cutWrong();
        grow();
        growWrong();
        growNearest();
        cutThenGrow();
        due.end();
    }

    private static void cut() {
        WireCodec x = new WireCodec();
        long[] most = {128, 32768, 8388608, 2147483648L};
        for (int k = 0; k < 4; k++) {
            due.is("the most ahead", x.cut(1000 + most[k], 1000), k + 1);
            due.is("one more", x.cut(1001 + most[k], 1000), k < 3 ? k + 2 : 0);
            due.is("the most ahead of none", x.cut(most[k] - 1, -1), k + 1);
            due.is("one more than none", x.cut(most[k], -1), k < 3 ? k + 2 : 0);
        }
        due.is("the first", x.cut(0, -1), 1);
        due.is("the last", x.cut(Due.GREATEST, Due.GREATEST - 1), 1);
        due.is("the last of all", x.cut(Due.GREATEST, -1), 0);
    }

    private static void cutWrong() {
        WireCodec x = new WireCodec();
        due.fails("the same", Due.ARGUMENT, () -> x.cut(5, 5));
        due.fails("below", Due.ARGUMENT, () -> x.cut(4, 5));
        due.fails("number -1", Due.ARGUMENT, () -> x.cut(-1, -1));
        due.fails("acknowledged -2", Due.ARGUMENT, () -> x.cut(5, -2));
        due.fails("acknowledged least", Due.ARGUMENT, () -> x.cut(5, Long.MIN_VALUE));
        due.fails("number beyond", Due.ARGUMENT, () -> x.cut(Due.GREATEST + 1, Due.GREATEST));
        due.fails("acknowledged beyond", Due.ARGUMENT, () -> x.cut(5, Due.GREATEST + 1));
    }

    private static void grow() {
        WireCodec x = new WireCodec();
        due.is("of the transport's own example", x.grow(0xa82f30eaL, 0x9b32, 2), 0xa82f9b32L);
        due.is("two are as near", x.grow(127, 0, 1), 256);
        due.is("the lower is nearer", x.grow(126, 0, 1), 0);
        due.is("none is below 0", x.grow(-1, 255, 1), 255);
        due.is("none is below 0", x.grow(-1, 4294967295L, 4), 4294967295L);
        due.is("none is beyond", x.grow(Due.GREATEST, 0, 1), Due.GREATEST - 255);
        due.is("none is beyond", x.grow(Due.GREATEST, 0, 4), Due.GREATEST - 4294967295L);
        due.is("the greatest", x.grow(Due.GREATEST - 1, 255, 1), Due.GREATEST);
        due.is("3 bytes", x.grow(16777215, 1, 3), 16777217);
        due.is("4 bytes", x.grow(4294967295L, 4294967295L, 4), 4294967295L);
    }

    private static void growWrong() {
        WireCodec x = new WireCodec();
        due.fails("largest -2", Due.ARGUMENT, () -> x.grow(-2, 0, 1));
        due.fails("largest beyond", Due.ARGUMENT, () -> x.grow(Due.GREATEST + 1, 0, 1));
        due.fails("n 0", Due.ARGUMENT, () -> x.grow(5, 0, 0));
        due.fails("n 5", Due.ARGUMENT, () -> x.grow(5, 0, 5));
        due.fails("n -1", Due.ARGUMENT, () -> x.grow(5, 0, -1));
        due.fails("n most", Due.ARGUMENT, () -> x.grow(5, 0, Integer.MAX_VALUE));
        due.fails("bytes -1", Due.ARGUMENT, () -> x.grow(5, -1, 1));
        for (int n = 1; n <= 4; n++) {
            int size = n;
            long beyond = 1L << 8 * n;
            due.fails("bytes beyond", Due.ARGUMENT, () -> x.grow(5, beyond, size));
            due.is("the most bytes", x.grow(-1, beyond - 1, size), beyond - 1);
        }
    }

    private static void growNearest() {
        long[] starts = {-1, 0, 50, 127, 128, 255, 256, 300, 1000, Due.GREATEST - 700, Due.GREATEST - 300,
            Due.GREATEST - 256, Due.GREATEST - 128, Due.GREATEST - 1, Due.GREATEST};
        for (long largest : starts) {
            WireCodec x = new WireCodec();
            for (int bytes = 0; bytes < 256; bytes++) {
                due.is("grow(" + largest + ", " + bytes + ", 1)", x.grow(largest, bytes, 1), nearest(largest + 1, bytes));
            }
        }
    }

    /** Looks at every number round about. */
    private static long nearest(long next, int bytes) {
        for (long away = 0; away < 600; away++) {
            if (isLike(next + away, bytes)) {
                return next + away;
            }
            if (isLike(next - away, bytes)) {
                return next - away;
            }
        }
        return -1;
    }

    private static boolean isLike(long number, int bytes) {
        return number >= 0 && number <= Due.GREATEST && (number & 255) == bytes;
    }

    private static void cutThenGrow() {
        java.util.Random random = new java.util.Random(22);
        for (int k = 0; k < 2000; k++) {
            WireCodec x = new WireCodec();
            long acknowledged = (random.nextLong() & Due.GREATEST) >> random.nextInt(62);
            long number = Math.min(Due.GREATEST, acknowledged + 1 + (random.nextLong() >>> 33 + random.nextInt(31)));
            if (number > acknowledged) {
                int n = x.cut(number, acknowledged);
                if (n > 0) {
                    due.is("grown", x.grow(acknowledged, number & (1L << 8 * n) - 1, n), number);
                }
            }
        }
    }
}
