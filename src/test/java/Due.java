import java.util.NoSuchElementException;

/** Counts answers against those that are due, and feeds tapes. */
final class Due {
    static final long GREATEST = 4611686018427387903L;
    static final long MOST_STREAMS = 1152921504606846976L;

    static final Class<?> ARGUMENT = IllegalArgumentException.class;
    static final Class<?> STATE = IllegalStateException.class;
    static final Class<?> NO_SUCH = NoSuchElementException.class;

    interface Call {
        void run();
    }

    private final String test;
    private int right;
    private int wrong;

    Due(String test) {
        this.test = test;
    }

    void is(String call, long got, long want) {
        if (got == want) {
            right++;
        } else {
            wrong++;
            System.out.println(test + ": " + call + " answered " + got + ", due is " + want);
        }
    }

    void fails(String call, Class<?> want, Call made) {
        Class<?> got = null;
        try {
            made.run();
        } catch (RuntimeException e) {
            got = e.getClass();
        }
        if (got == want) {
            right++;
        } else {
            wrong++;
            System.out.println(test + ": " + call + " threw " + got + ", due is " + want);
        }
    }

    void end() {
        System.out.println(test + ": " + right + " answers as due, " + wrong + " not");
        if (wrong != 0) {
            System.exit(1);
        }
    }

    /** A new object with these bytes, written in hex, on its tape. */
    static WireCodec tape(String hex) {
        WireCodec x = new WireCodec();
        feed(x, hex);
        return x;
    }

    static void feed(WireCodec x, String hex) {
        String digits = hex.replace(" ", "");
        for (int k = 0; k < digits.length(); k += 16) {
            String word = digits.substring(k, Math.min(k + 16, digits.length()));
            x.feed(Long.parseUnsignedLong(word, 16), word.length() / 2);
        }
    }

    static void add(WireCodec x, String hex) {
        String digits = hex.replace(" ", "");
        for (int k = 0; k < digits.length(); k += 16) {
            String word = digits.substring(k, Math.min(k + 16, digits.length()));
            x.add(Long.parseUnsignedLong(word, 16), word.length() / 2);
        }
    }

    static String bytes(int count) {
        return "ab".repeat(count);
    }

    /** The bytes of the tape from a place on, compared with these, written in hex. */
    void tapeIs(String call, WireCodec x, int from, String hex) {
        String digits = hex.replace(" ", "");
        StringBuilder got = new StringBuilder();
        for (int k = from; k < x.size(); k++) {
            got.append(String.format("%02x", x.at(k)));
        }
        if (got.toString().equals(digits)) {
            right++;
        } else {
            wrong++;
            System.out.println(test + ": " + call + " wrote " + got + ", due is " + digits);
        }
    }

    /** A tape that has so many bytes, in few calls. */
    static WireCodec filled(int size) {
        WireCodec x = new WireCodec();
        x.set(0, 2000);
        while (x.size() + 2000 <= size) {
            x.put(0);
        }
        if (x.size() < size) {
            x.set(0, size - x.size());
            x.put(0);
        }
        x.draft();
        return x;
    }
}
