import java.util.ArrayList;
import java.util.List;
import java.util.NoSuchElementException;

/**
 * Counts answers against those that are due. Each test stands under the promise and the sentence of the document that
 * it would find broken, and both are told with every answer that is not due.
 */
final class Due {
    static final long GREATEST = 4611686018427387903L;
    static final long MOST_STREAMS = 1152921504606846976L;

    static final Class<?> ARGUMENT = IllegalArgumentException.class;
    static final Class<?> STATE = IllegalStateException.class;
    static final Class<?> NO_SUCH = NoSuchElementException.class;

    interface Call {
        void run();
    }

    /** A call of the class that is made on a given object. */
    interface Made {
        void on(WireCodec x);
    }

    /** Makes a new object with the same past each time. */
    interface Past {
        WireCodec make();
    }

    /** A sentence of the document, and where it stands: "Promise 8", or "Promise 8, Terms" for a term of that promise. */
    record Quote(String where, String sentence) {
        String section() {
            return where.substring(where.lastIndexOf(", ") + 1).strip();
        }
    }

    final List<Quote> quotes = new ArrayList<>();
    private final String name;
    private final boolean running;
    private String now = "";
    private int right;
    private int wrong;

    private Due(String name, boolean running) {
        this.name = name;
        this.running = running;
    }

    Due(String name) {
        this(name, true);
    }

    /** One that runs nothing, and only gathers what the tests quote. */
    static Due listing() {
        return new Due("listing", false);
    }

    void test(String where, String sentence, Call body) {
        quotes.add(new Quote(where, sentence));
        if (!running) {
            return;
        }
        now = where + ", \"" + sentence + "\": ";
        int before = right + wrong;
        try {
            body.run();
            if (right + wrong == before) {
                isWrong("nothing was looked at");
            }
        } catch (RuntimeException e) {
            isWrong("ended with " + e);
        }
        now = "";
    }

    void is(String call, long got, long want) {
        count(got == want, call + " answered " + got + ", due is " + want);
    }

    void holds(String what, boolean so) {
        count(so, what + " does not hold");
    }

    void fails(String call, Class<?> want, Call made) {
        Class<?> got = thrownBy(made);
        count(got == want, call + " threw " + got + ", due is " + want);
    }

    /** The call throws; and behind it the object can't be told from one with the same past that never got the call. */
    void refused(String call, Class<?> want, Past past, Made made) {
        fails(call, want, () -> made.on(past.make()));
        String got = Seen.of(() -> {
            WireCodec x = past.make();
            thrownBy(() -> made.on(x));
            return x;
        });
        String untouched = Seen.of(past);
        count(got.equals(untouched), call + " left\n  " + got + "\ndue is\n  " + untouched);
    }

    /** Refused whatever was read before. */
    void refused(String call, Class<?> want, Made made) {
        for (Past past : Pasts.ALL) {
            refused(call, want, past, made);
        }
    }

    /** The bytes of the tape from a place on are these, written in hex. */
    void tapeIs(String call, WireCodec x, int from, String hex) {
        String digits = hex.replace(" ", "");
        StringBuilder got = new StringBuilder();
        int size = x.size();
        for (int k = from; k < size; k++) {
            got.append(String.format("%02x", x.at(k)));
        }
        count(got.toString().equals(digits), call + " wrote " + got + ", due is " + digits);
    }

    void end() {
        System.out.println(name + ": " + right + " answers as due, " + wrong + " not");
        if (wrong != 0 || right == 0) {
            System.exit(1);
        }
    }

    private static Class<?> thrownBy(Call made) {
        try {
            made.run();
        } catch (RuntimeException e) {
            return e.getClass();
        }
        return null;
    }

    private void count(boolean so, String otherwise) {
        if (so) {
            right++;
        } else {
            isWrong(otherwise);
        }
    }

    private void isWrong(String how) {
        wrong++;
        System.out.println(name + ": " + now + how);
    }

    // ---- objects with something on their tape or in their draft

    /** A new object with these bytes, written in hex, on its tape. */
    static WireCodec tape(String hex) {
        WireCodec x = new WireCodec();
        feed(x, hex);
        return x;
    }

    static void feed(WireCodec x, String hex) {
        String digits = hex.replace(" ", "");
        for (int k = 0; k < digits.length(); k += 16) {
            String word = digits.substring(k, Math.min(k + 16, digits.length()));
            x.feed(Long.parseUnsignedLong(word, 16), word.length() / 2);
        }
    }

    static void add(WireCodec x, String hex) {
        String digits = hex.replace(" ", "");
        for (int k = 0; k < digits.length(); k += 16) {
            String word = digits.substring(k, Math.min(k + 16, digits.length()));
            x.add(Long.parseUnsignedLong(word, 16), word.length() / 2);
        }
    }

    static String bytes(int count) {
        return "ab".repeat(count);
    }

    static String hex(int b) {
        return String.format("%02x", b);
    }

    /** A tape that has so many bytes, all 0, in few calls, and an empty draft. */
    static WireCodec filled(int size) {
        WireCodec x = new WireCodec();
        fill(x, size);
        return x;
    }

    static void fill(WireCodec x, int size) {
        int has = x.size();
        x.set(0, 2000);
        // Counted, lest a class that answers wrong keeps it going for ever.
        for (int k = 0; k < 33 && has + 2000 <= size; k++) {
            has = x.put(0);
        }
        if (has < size) {
            x.set(0, size - has);
            x.put(0);
        }
        x.draft();
    }
}
