/** What tests of the reading of frames ask again and again. */
final class FrameChecks {
    static final int CUT = 1;
    static final int KIND = 2;
    static final int VALUE = 3;
    static final int LEVEL = 4;

    private final Due due;

    FrameChecks(Due due) {
        this.due = due;
    }

    /** One frame that is right and ends the tape: a, b, c, d, kind, bytes, ranges, begin, end, counts. */
    WireCodec one(String hex, long... parts) {
        WireCodec x = Due.tape(hex);
        due.is(hex + " frames", x.frames(0, 2), 1);
        due.is(hex + " fault", x.fault(false), 0);
        due.is(hex + " place", x.fault(true), -1);
        for (int k = 0; k < 12; k++) {
            long want = k == 8 ? x.size() : k < parts.length ? parts[k] : 0;
            due.is(hex + " frame(0, " + k + ")", x.frame(0, k), want);
        }
        return x;
    }

    /** A frame that is wrong behind a PING that is right. */
    void wrong(String hex, int level, int fault) {
        WireCodec x = Due.tape("01" + hex);
        due.is(hex + " frames", x.frames(0, level), 1);
        due.is(hex + " fault", x.fault(false), fault);
        due.is(hex + " place", x.fault(true), 1);
        due.fails(hex + " frame(1, 4)", Due.NO_SUCH, () -> x.frame(1, 4));
    }

    /** A frame that is right, and CUT wherever the tape ends within it. */
    void cutAnywhere(String hex) {
        String digits = hex.replace(" ", "");
        due.is(hex + " whole", Due.tape(digits).frames(0, 2), 1);
        for (int end = 2; end < digits.length(); end += 2) {
            wrong(digits.substring(0, end), 2, CUT);
        }
    }

    void data(WireCodec x, int i, boolean secret, String hex) {
        int count = hex.length() / 2;
        for (int j = 0; j < count; j++) {
            int want = Integer.parseInt(hex.substring(2 * j, 2 * j + 2), 16);
            due.is("data(" + i + ", " + j + ", " + secret + ")", x.data(i, j, secret), want);
        }
        due.fails("data(" + i + ", " + count + ", " + secret + ")", Due.NO_SUCH, () -> x.data(i, count, secret));
        due.fails("data(" + i + ", -1, " + secret + ")", Due.NO_SUCH, () -> x.data(i, -1, secret));
    }

    /** The ranges of a frame: least, greatest, least, greatest .. */
    void ranges(WireCodec x, int i, long... ends) {
        int count = ends.length / 2;
        due.is("ranges of frame " + i, x.frame(i, 6), count);
        for (int k = 0; k < count; k++) {
            due.is("range(" + i + ", " + k + ", false)", x.range(i, k, false), ends[2 * k]);
            due.is("range(" + i + ", " + k + ", true)", x.range(i, k, true), ends[2 * k + 1]);
        }
        due.fails("range(" + i + ", " + count + ", true)", Due.NO_SUCH, () -> x.range(i, count, true));
        due.fails("range(" + i + ", -1, false)", Due.NO_SUCH, () -> x.range(i, -1, false));
    }
}
