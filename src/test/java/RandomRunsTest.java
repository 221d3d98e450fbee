import java.util.Random;

/** All promises: random runs of fewer than 512 calls, each answer and exception against the model's. */
public final class RandomRunsTest {
    private static final int RUNS = 6000;
    // The dearest of the steps below makes some 70 calls.
    private static final int LAST_STEP_AT = 440;
    private static final long[] EDGES = {
        -2, -1, 0, 1, 2, 19, 20, 21, 63, 64, 1199, 1200, 1999, 2000, 2001, 16383, 16384, 65535, 65536, 1073741823,
        1073741824, 2147483647, 2147483648L, 1152921504606846976L, 1152921504606846977L, 4611686018427387902L,
        4611686018427387903L, 4611686018427387904L, Long.MAX_VALUE, Long.MIN_VALUE
    };
    private static final String[] CALLS = {
        "feed", "number", "clear", "size", "at", "read", "frames", "fault", "frame", "data", "range", "draft", "set",
        "add", "span", "put", "head", "datagram", "packet", "lead", "cut", "grow", "parameters", "parameter",
        "FRAME", "STREAM", "ACK", "HEADER", "PARAMETER", "FILL", "BYTES"
    };
    // How often each call comes: anything; frames; headers; parameters; a tape that gets full.
    private static final int[][] WEIGHTS = {
        {3, 3, 1, 1, 1, 1, 3, 1, 3, 3, 3, 1, 3, 3, 3, 3, 3, 3, 3, 3, 2, 2, 3, 3, 3, 2, 2, 2, 2, 0, 2},
        {3, 5, 1, 1, 1, 1, 9, 4, 12, 8, 8, 2, 3, 3, 3, 5, 0, 0, 0, 0, 0, 0, 0, 0, 20, 8, 5, 0, 0, 0, 4},
        {2, 1, 2, 1, 1, 1, 1, 4, 0, 0, 0, 2, 0, 3, 0, 0, 5, 7, 16, 3, 4, 4, 0, 0, 0, 0, 0, 16, 0, 0, 2},
        {1, 1, 3, 1, 1, 1, 0, 4, 0, 0, 0, 0, 0, 0, 0, 0, 0, 0, 0, 0, 0, 0, 8, 12, 0, 0, 0, 0, 24, 0, 1},
        {3, 3, 0, 1, 1, 1, 1, 1, 1, 1, 1, 0, 1, 3, 1, 3, 1, 1, 1, 2, 0, 0, 1, 1, 3, 3, 1, 1, 1, 12, 2}
    };

    private final Due due;
    private final Random random;
    private final WireCodec x = new WireCodec();
    private final Model m = new Model();
    private int made;

    private RandomRunsTest(Due due, int seed) {
        this.due = due;
        this.random = new Random(seed);
    }

    public static void main(String[] args) {
        Due due = new Due("RandomRunsTest");
        for (int seed = 0; seed < RUNS; seed++) {
            int kind = seed % 40 == 4 ? 4 : seed % 4;
            new RandomRunsTest(due, seed).run(WEIGHTS[kind]);
        }
        due.end();
    }

    private interface Answer {
        long get();
    }

    private static String said(Answer call) {
        try {
            return Long.toString(call.get());
        } catch (RuntimeException e) {
            return e.getClass().getName();
        }
    }

    private void same(String call, Answer got, Answer want) {
        made++;
        String g = said(got);
        String w = said(want);
        due.is(call + ": " + g + ", model " + w, g.equals(w) ? 1 : 0, 1);
    }

    private void run(int[] weights) {
        int sum = 0;
        for (int w : weights) {
            sum += w;
        }
        int calls = 1 + random.nextInt(120);
        for (int n = 0; n < calls && made < LAST_STEP_AT; n++) {
            int pick = random.nextInt(sum);
            int k = 0;
            while (pick >= weights[k]) {
                pick -= weights[k];
                k++;
            }
            call(CALLS[k]);
        }
    }

    private int small(int least, int most) {
        return least + random.nextInt(most - least + 1);
    }

    private boolean coin() {
        return random.nextBoolean();
    }

    private long value() {
        switch (random.nextInt(6)) {
            case 0:
                return EDGES[random.nextInt(EDGES.length)];
            case 1:
                return random.nextLong();
            case 2:
                return random.nextLong() >>> 2 + random.nextInt(62);
            default:
                return random.nextInt(32);
        }
    }

    /** Mostly a number. */
    private long num() {
        return random.nextInt(30) == 0 ? value() : random.nextLong() >>> 2 + random.nextInt(62);
    }

    private int index() {
        return random.nextInt(12) == 0 ? (int) value() : random.nextInt(random.nextInt(20) + 1) - (random.nextInt(20) == 0 ? 1 : 0);
    }

    private int place() {
        made++;
        int size = x.size();
        switch (random.nextInt(8)) {
            case 0:
                return (int) value();
            case 1:
                return size - random.nextInt(3);
            case 2:
            case 3:
                return random.nextInt(size + 1);
            default:
                return 0;
        }
    }

    private void call(String name) {
        switch (name) {
            case "feed" -> feed(value(), small(0, 9));
            case "number" -> {
                long v = value();
                int n = random.nextInt(3) == 0 ? small(-1, 9) : new int[] {0, 1, 2, 4, 8}[random.nextInt(5)];
                same("number(" + v + ", " + n + ")", () -> x.number(v, n), () -> m.number(v, n));
            }
            case "clear" -> {
                if (random.nextInt(3) == 0) {
                    same("clear()", x::clear, m::clear);
                }
            }
            case "size" -> same("size()", x::size, m::size);
            case "at" -> {
                int i = place();
                same("at(" + i + ")", () -> x.at(i), () -> m.at(i));
            }
            case "read" -> {
                int i = place();
                same("read(" + i + ")", () -> x.read(i), () -> m.read(i));
            }
            default -> {
                if (!callReading(name) && !callDraft(name) && !callHeaders(name)) {
                    callMany(name);
                }
            }
        }
    }

    private boolean callReading(String name) {
        int i = index();
        int j = index();
        boolean flag = coin();
        switch (name) {
            case "frames" -> {
                int from = place();
                int level = random.nextInt(12) == 0 ? small(-1, 3) : coin() ? 2 : small(0, 2);
                same("frames(" + from + ", " + level + ")", () -> x.frames(from, level), () -> m.frames(from, level));
            }
            case "fault" -> {
                same("fault(false)", () -> x.fault(false), () -> m.fault(false));
                same("fault(true)", () -> x.fault(true), () -> m.fault(true));
            }
            case "frame" -> {
                int what = small(-1, 12);
                same("frame(" + i + ", " + what + ")", () -> x.frame(i, what), () -> m.frame(i, what));
            }
            case "data" ->
                same("data(" + i + ", " + j + ", " + flag + ")", () -> x.data(i, j, flag), () -> m.data(i, j, flag));
            case "range" ->
                same("range(" + i + ", " + j + ", " + flag + ")", () -> x.range(i, j, flag), () -> m.range(i, j, flag));
            case "parameters" -> {
                int from = place();
                same("parameters(" + from + ", " + flag + ")", () -> x.parameters(from, flag), () -> m.parameters(from, flag));
            }
            case "parameter" -> {
                for (int id = -1; id < 18; id++) {
                    int p = id;
                    same("parameter(" + p + ")", () -> x.parameter(p), () -> m.parameter(p));
                }
            }
            default -> {
                return false;
            }
        }
        return true;
    }

    private boolean callDraft(String name) {
        switch (name) {
            case "draft" -> draft();
            case "set" -> set(small(-1, 12), value());
            case "add" -> add(random.nextLong(), random.nextInt(12) == 0 ? small(0, 9) : small(1, 8));
            case "span" -> {
                long low = value();
                span(low, coin() ? low + random.nextInt(20) : value());
            }
            case "put" -> put(small(-1, 32));
            default -> {
                return false;
            }
        }
        return true;
    }

    private boolean callHeaders(String name) {
        int names = random.nextInt(12) == 0 ? small(-1, 21) : small(0, 4);
        switch (name) {
            case "head" -> {
                int from = place();
                same("head(" + from + ", " + names + ")", () -> x.head(from, names), () -> m.head(from, names));
            }
            case "datagram" -> {
                int from = place();
                same("datagram(" + from + ", " + names + ")", () -> x.datagram(from, names), () -> m.datagram(from, names));
            }
            case "packet" -> {
                int i = index();
                int what = small(-1, 12);
                same("packet(" + i + ", " + what + ")", () -> x.packet(i, what), () -> m.packet(i, what));
            }
            case "lead" -> lead(small(-1, 5), small(-1, 64), small(-1, 21), coin() ? 0 : small(-1, 21), (int) value());
            case "cut" -> {
                long number = value();
                long acknowledged = coin() ? value() : number - 1 - (random.nextLong() >>> 1 + random.nextInt(63));
                same("cut(" + number + ", " + acknowledged + ")", () -> x.cut(number, acknowledged), () -> m.cut(number, acknowledged));
            }
            case "grow" -> {
                long largest = value();
                int n = small(0, 5);
                long bytes = coin() ? value() : random.nextLong() >>> 64 - 8 * Math.max(1, n);
                same("grow(" + largest + ", " + bytes + ", " + n + ")", () -> x.grow(largest, bytes, n), () -> m.grow(largest, bytes, n));
            }
            default -> {
                return false;
            }
        }
        return true;
    }

    /** Several calls that make something likely to be right. */
    private void callMany(String name) {
        switch (name) {
            case "FRAME" -> {
                draft();
                for (int what = 0; what < 12; what += what == 3 ? 6 : 1) {
                    set(what, num());
                }
                addBytes(random.nextInt(3) == 0 ? small(0, 40) : small(0, 4));
                put(small(0, 30));
            }
            case "STREAM" -> {
                draft();
                set(0, num());
                set(1, coin() ? 0 : num());
                set(2, random.nextInt(2));
                set(3, random.nextInt(5) == 0 ? 0 : 1);
                addBytes(small(0, 20));
                put(8);
            }
            case "ACK" -> {
                draft();
                long high = num();
                for (int k = small(1, 6); k > 0 && high >= 0; k--) {
                    long low = Math.max(0, high - (random.nextLong() >>> 10 + random.nextInt(54)));
                    span(low, high);
                    high = low - 2 - (random.nextLong() >>> 10 + random.nextInt(54));
                }
                put(small(2, 3));
            }
            case "HEADER" -> header();
            case "PARAMETER" -> parameter();
            case "FILL" -> {
                set(0, 2000);
                put(0);
                put(0);
            }
            default -> {
                // Small bytes: kinds, and the one-byte numbers and lengths behind them.
                for (int k = small(1, 4); k > 0; k--) {
                    feed(random.nextLong() & 0x1f0707071f070707L, 8);
                }
            }
        }
    }

    private void header() {
        draft();
        int to = small(0, 3);
        int by = small(0, 3);
        int kind = new int[] {0, 0, 2, 2, 4}[random.nextInt(5)];
        for (int k = 0; k < to; k++) {
            add(7, 1);
        }
        addBytes(by + (kind == 0 ? small(0, 5) : 0));
        int length = random.nextInt(8) == 0 ? small(19, 40) : 24;
        if (random.nextInt(4) == 0) {
            // What lead does not write: other kinds, versions, bits and long names.
            feed(coin() ? 192 + random.nextInt(64) : random.nextInt(256), 1);
            feed(random.nextInt(6) == 0 ? 2 : 1, 4);
            feed(random.nextInt(5) == 0 ? small(19, 22) : 0, 1);
            feed(random.nextInt(5) == 0 ? small(19, 22) : 0, 1);
            feed(random.nextInt(30), 1);
        } else {
            lead(kind, random.nextInt(16), to, kind == 4 ? 0 : by, length);
        }
        for (int k = 0; k < 3; k++) {
            feed(random.nextLong(), 8);
        }
        if (random.nextInt(3) == 0) {
            callHeaders("datagram");
        }
    }

    private void parameter() {
        int id = random.nextInt(20);
        boolean ofBytes = id == 0 || id == 2 || id == 12 || id == 13 || id >= 15;
        same("number", () -> x.number(id, 0), () -> m.number(id, 0));
        if (ofBytes) {
            int bytes = switch (id) {
                case 2 -> small(15, 17);
                case 12 -> random.nextInt(8) == 0 ? 1 : 0;
                case 13 -> coin() ? small(40, 62) : 50;
                default -> small(0, 21);
            };
            same("number", () -> x.number(bytes, 0), () -> m.number(bytes, 0));
            for (int k = 0; k < bytes; k++) {
                feed(random.nextLong(), 1);
            }
        } else {
            long v = random.nextInt(3) == 0 ? EDGES[3 + random.nextInt(20)] : id == 3 ? 1500 : small(2, 20);
            int n = v < 64 ? 1 : v < 16384 ? 2 : v < 1073741824 ? 4 : 8;
            int said = random.nextInt(20) == 0 ? small(0, 9) : n;
            same("number", () -> x.number(said, 0), () -> m.number(said, 0));
            same("number", () -> x.number(v, n), () -> m.number(v, n));
        }
    }

    private void feed(long v, int n) {
        same("feed(" + v + ", " + n + ")", () -> x.feed(v, n), () -> m.feed(v, n));
    }

    private void draft() {
        made++;
        x.draft();
        m.draft();
    }

    private void set(int what, long v) {
        same("set(" + what + ", " + v + ")", () -> {
            x.set(what, v);
            return 0;
        }, () -> {
            m.set(what, v);
            return 0;
        });
    }

    private void add(long v, int n) {
        same("add(" + v + ", " + n + ")", () -> x.add(v, n), () -> m.add(v, n));
    }

    private void addBytes(int count) {
        for (int k = 0; k < count; k++) {
            add(random.nextLong(), 1);
        }
    }

    private void span(long low, long high) {
        same("span(" + low + ", " + high + ")", () -> {
            x.span(low, high);
            return 0;
        }, () -> {
            m.span(low, high);
            return 0;
        });
    }

    private void put(int kind) {
        same("put(" + kind + ")", () -> x.put(kind), () -> m.put(kind));
    }

    private void lead(int kind, int r, int to, int by, int length) {
        same("lead(" + kind + ", " + r + ", " + to + ", " + by + ", " + length + ")",
                () -> x.lead(kind, r, to, by, length), () -> m.lead(kind, r, to, by, length));
    }
}
