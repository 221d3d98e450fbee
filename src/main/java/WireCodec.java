import java.util.Arrays;
import java.util.NoSuchElementException;

/**
 * The written form of a secure transport over datagrams: numbers, frames, headers, datagrams and parameters, read from
 * a tape of bytes and written behind it.
 *
 * <p>Of what was read only the places are kept. A tape grows behind its bytes or is emptied, never changed, so a frame
 * or packet that was right is read again, up to the end that the tape had then, when somebody asks for it.
 */
public final class WireCodec {
    private static final long GREATEST_NUMBER = 4611686018427387903L;
    private static final long MOST_STREAMS = 1152921504606846976L;

    private static final int TAPE_MOST = 65536;
    private static final int DATA_MOST = 2000;
    private static final int PADDING_MOST = 2000;
    private static final int RANGES_MOST = 500;
    private static final int NAME_MOST = 20;
    private static final int SECRET_BYTES = 16;
    private static final int PACKET_LEAST = 20;
    private static final int LENGTH_MOST = 16383;

    // The tables begin small and double, so that a run of many short-lived objects stays cheap.
    private static final int TAPE_AT_FIRST = 1024;
    private static final int PLACES_AT_FIRST = 512;

    private static final int FAULT_NONE = 0;
    private static final int FAULT_CUT = 1;
    // Of frames and parameters.
    private static final int FAULT_KIND = 2;
    private static final int FAULT_VALUE = 3;
    private static final int FAULT_LEVEL = 4;
    // Of headers and datagrams.
    private static final int FAULT_FIXED = 2;
    private static final int FAULT_VERSION = 3;
    private static final int FAULT_REFUSED = 4;
    private static final int FAULT_NAME = 5;
    private static final int FAULT_OTHER = 6;

    private static final int LEVEL_LAST = 2;

    private static final int PADDING = 0;
    private static final int ACK = 2;
    private static final int ACK_COUNTS = 3;
    private static final int CRYPTO = 6;
    private static final int TOKEN = 7;
    private static final int STREAM = 8;
    private static final int STREAM_LAST = 15;
    private static final int MAX_STREAMS = 18;
    private static final int MAX_STREAMS_TOO = 19;
    private static final int STREAMS_BLOCKED = 22;
    private static final int STREAMS_BLOCKED_TOO = 23;
    private static final int NEW_NAME = 24;
    private static final int CHALLENGE = 26;
    private static final int RESPONSE = 27;
    private static final int CLOSE = 28;
    private static final int KIND_LAST = 30;

    private static final int STREAM_OFFSET = 4;
    private static final int STREAM_LENGTH = 2;
    private static final int STREAM_FIN = 1;

    // The bits of the kinds 0, 1, 2, 3, 6, 28.
    private static final int EARLY_KINDS = 15 | 1 << CRYPTO | 1 << CLOSE;

    private static final int HAS_A = 1;
    private static final int HAS_B = 2;
    private static final int HAS_C = 4;
    private static final int HAS_DATA = 8;

    // Which of the numbers a, b, c and D(n), in this order, a frame's first byte brings ahead of all else that it has.
    private static final int[] SHAPES = {
        0, 0, 3, 3, 7, 3, 10, 8,
        1, 1, 9, 9, 3, 3, 11, 11,
        1, 3, 1, 1, 1, 3, 1, 1,
        3, 1, 0, 0, 11, 9, 0
    };

    // What a caller may ask of a frame, and set in a draft.
    private static final int A = 0;
    private static final int B = 1;
    private static final int C = 2;
    private static final int D = 3;
    private static final int KIND = 4;
    private static final int BYTES = 5;
    private static final int RANGES = 6;
    private static final int BEGIN = 7;
    private static final int END = 8;
    private static final int COUNTS = 9;
    private static final int FRAME_PARTS = 12;

    private static final int INITIAL = 0;
    private static final int EARLY = 1;
    private static final int HANDSHAKE = 2;
    private static final int RETRY = 3;
    private static final int SHORT = 4;

    private static final int LONG_BIT = 128;
    private static final int FIXED_BIT = 64;
    private static final int VERSION = 1;

    // What a caller may ask of a packet.
    private static final int PACKET_KIND = 0;
    private static final int PACKET_R = 1;
    private static final int PACKET_VERSION = 2;
    private static final int PACKET_BEGIN = 3;
    private static final int PACKET_NUMBER = 4;
    private static final int PACKET_END = 5;
    private static final int TO_PLACE = 6;
    private static final int TO_BYTES = 7;
    private static final int BY_PLACE = 8;
    private static final int BY_BYTES = 9;
    private static final int TOKEN_PLACE = 10;
    private static final int TOKEN_BYTES = 11;
    private static final int PACKET_PARTS = 12;

    private final Tape tape;
    private final Reader reader;
    private final Reading reading;
    private final Frame loadedFrame;
    private final Header loadedHeader;
    private final Draft drafted;
    private final Parameters told;

    public WireCodec() {
        tape = new Tape();
        reader = new Reader(tape);
        reading = new Reading();
        loadedFrame = new Frame();
        loadedHeader = new Header();
        drafted = new Draft();
        told = new Parameters();
    }

    public int feed(long v, int n) throws IllegalArgumentException, IllegalStateException {
        if (n < 1 || n > 8) {
            throw new IllegalArgumentException("n is not 1 .. 8");
        }
        tape.startWriting();
        tape.writeWord(v, n);
        return keepWritten();
    }

    public int number(long v, int n) throws IllegalArgumentException, IllegalStateException {
        if (!isNumber(v) || n != 0 && !isNumberSize(n) || n != 0 && n < fewestBytes(v)) {
            throw new IllegalArgumentException("no number of so many bytes");
        }
        tape.startWriting();
        tape.writeNumber(v, n);
        return keepWritten();
    }

    public int clear() {
        int had = tape.length;
        tape.length = 0;
        reading.restart(0, 0);
        told.forget();
        return had;
    }

    public int size() {
        return tape.length;
    }

    public int at(int i) throws NoSuchElementException {
        requireByte(i);
        return tape.byteAt(i);
    }

    public long read(int from) throws NoSuchElementException {
        requireByte(from);
        reader.start(from, tape.length);
        long v = reader.takeNumber();
        return reader.over ? -1 : v;
    }

    public int frames(int from, int level) throws IllegalArgumentException {
        requirePlace(from);
        if (level < 0 || level > LEVEL_LAST) {
            throw new IllegalArgumentException("level is not 0 .. 2");
        }
        reading.restart(tape.length, 0);
        reader.start(from, reading.limit);
        for (int n = 0; n < TAPE_MOST && reader.left() > 0; n++) {
            int place = reader.place;
            int wrong = loadedFrame.parse(reader, level);
            if (wrong != FAULT_NONE) {
                reading.fail(wrong, place);
                break;
            }
            reading.keepFrame(place);
        }
        return reading.frameCount;
    }

    public int fault(boolean place) {
        return place ? reading.wrongPlace : reading.wrong;
    }

    public long frame(int i, int what) throws NoSuchElementException {
        startAtFrame(i);
        loadedFrame.parse(reader, LEVEL_LAST);
        if (what < 0 || what >= FRAME_PARTS) {
            throw new NoSuchElementException("a frame has no such part");
        }
        return loadedFrame.parts[what];
    }

    public int data(int i, int j, boolean secret) throws NoSuchElementException {
        startAtFrame(i);
        loadedFrame.parse(reader, LEVEL_LAST);
        long bytes = secret ? loadedFrame.secretBytes : loadedFrame.parts[BYTES];
        if (j < 0 || j >= bytes) {
            throw new NoSuchElementException("the frame has no such byte");
        }
        return tape.byteAt((secret ? loadedFrame.secretPlace : loadedFrame.dataPlace) + j);
    }

    public long range(int i, int k, boolean greatest) throws NoSuchElementException {
        startAtFrame(i);
        loadedFrame.parse(reader, LEVEL_LAST);
        if (k < 0 || k >= loadedFrame.parts[RANGES]) {
            throw new NoSuchElementException("the frame has no such range");
        }
        reader.start(loadedFrame.rangesPlace, reading.limit);
        loadedFrame.walkRanges(reader, k);
        return greatest ? loadedFrame.high : loadedFrame.low;
    }

    public void draft() {
        drafted.empty();
    }

    public void set(int what, long v) throws IllegalArgumentException {
        boolean field = what >= A && what <= D;
        boolean count = what >= COUNTS && what < FRAME_PARTS;
        if (!field && !count) {
            throw new IllegalArgumentException("a draft has no such field");
        }
        drafted.parts[what] = v;
    }

    public int add(long v, int n) throws IllegalArgumentException, IllegalStateException {
        if (n < 1 || n > 8) {
            throw new IllegalArgumentException("n is not 1 .. 8");
        }
        if (drafted.length + n > DATA_MOST) {
            throw new IllegalStateException("the draft's data is full");
        }
        drafted.append(v, n);
        return drafted.length;
    }

    public void span(long low, long high) throws IllegalArgumentException, IllegalStateException {
        if (low < 0 || low > high || !drafted.isBelowRanges(high)) {
            throw new IllegalArgumentException("no range below the last one");
        }
        if (drafted.ranges >= RANGES_MOST) {
            throw new IllegalStateException("the draft has all its ranges");
        }
        drafted.appendRange(low, high);
    }

    public int put(int kind) throws IllegalArgumentException, IllegalStateException {
        if (!drafted.isFrame(kind)) {
            throw new IllegalArgumentException("the draft is no such frame");
        }
        tape.startWriting();
        drafted.writeFrame(tape, kind);
        return keepWritten();
    }

    public int head(int from, int names) throws IllegalArgumentException {
        requirePlace(from);
        requireNames(names);
        reading.restart(tape.length, names);
        reader.start(from, reading.limit);
        int wrong = loadedHeader.parse(reader, names);
        if (wrong != FAULT_NONE) {
            reading.fail(wrong, from);
            return -1;
        }
        reading.keepPacket(from);
        return loadedHeader.parts[PACKET_NUMBER];
    }

    public int datagram(int from, int names) throws IllegalArgumentException {
        requirePlace(from);
        requireNames(names);
        reading.restart(tape.length, names);
        int place = from;
        int firstTo = 0;
        int firstToBytes = 0;
        for (int n = 0; n < TAPE_MOST && place < reading.limit; n++) {
            reader.start(place, reading.limit);
            int wrong = loadedHeader.parse(reader, names);
            if (wrong == FAULT_NONE && n == 0) {
                firstTo = loadedHeader.parts[TO_PLACE];
                firstToBytes = loadedHeader.parts[TO_BYTES];
            }
            if (wrong == FAULT_NONE && !loadedHeader.goesTo(tape, firstTo, firstToBytes)) {
                wrong = FAULT_OTHER;
            }
            if (wrong != FAULT_NONE) {
                reading.fail(wrong, place);
                break;
            }
            reading.keepPacket(place);
            place = loadedHeader.parts[PACKET_END];
        }
        return reading.packetCount;
    }

    public long packet(int i, int what) throws NoSuchElementException {
        if (i < 0 || i >= reading.packetCount || what < 0 || what >= PACKET_PARTS) {
            throw new NoSuchElementException("no such packet, or no such part of it");
        }
        reader.start(reading.placeOf(i), reading.limit);
        loadedHeader.parse(reader, reading.names);
        return loadedHeader.parts[what];
    }

    public int lead(int kind, int r, int to, int by, int length)
            throws IllegalArgumentException, IllegalStateException {
        if (!drafted.isHeader(kind, r, to, by, length)) {
            throw new IllegalArgumentException("the draft is no such header");
        }
        tape.startWriting();
        drafted.writeHeader(tape, kind, r, to, by, length);
        return keepWritten();
    }

    public int cut(long number, long acknowledged) throws IllegalArgumentException {
        if (!isNumber(number) || !isNumberOrNone(acknowledged) || number <= acknowledged) {
            throw new IllegalArgumentException("no packet's number above the acknowledged one");
        }
        long ahead = number - acknowledged;
        for (int n = 1; n <= 4; n++) {
            if (ahead <= 1L << (8 * n - 1)) {
                return n;
            }
        }
        return 0;
    }

    public long grow(long largest, long bytes, int n) throws IllegalArgumentException {
        if (!isNumberOrNone(largest) || n < 1 || n > 4 || bytes < 0 || bytes >= 1L << (8 * n)) {
            throw new IllegalArgumentException("no cut packet's number");
        }
        long window = 1L << (8 * n);
        long next = largest + 1;
        long middle = (next & -window) + bytes;
        long best = -1;
        for (int k = -1; k <= 1; k++) {
            long candidate = middle + k * window;
            // Candidates rise, so "not farther" lets the greater of two equally near ones win.
            if (isNumber(candidate) && (best < 0 || Math.abs(candidate - next) <= Math.abs(best - next))) {
                best = candidate;
            }
        }
        return best;
    }

    public int parameters(int from, boolean answers) throws IllegalArgumentException {
        requirePlace(from);
        reading.restart(tape.length, 0);
        told.forget();
        reader.start(from, reading.limit);
        for (int n = 0; n < TAPE_MOST && reader.left() > 0; n++) {
            int place = reader.place;
            int wrong = told.parseNext(reader, answers);
            if (wrong != FAULT_NONE) {
                reading.fail(wrong, place);
                told.forget();
                return -1;
            }
        }
        return Integer.bitCount(told.seen);
    }

    public long parameter(int id) throws NoSuchElementException {
        if (id < 0 || id > Parameters.ID_LAST) {
            throw new NoSuchElementException("id is not 0 .. 16");
        }
        return told.values[id];
    }

    private int keepWritten() {
        if (!tape.endWriting()) {
            throw new IllegalStateException("the tape has no room");
        }
        return tape.length;
    }

    private void requireByte(int i) {
        if (i < 0 || i >= tape.length) {
            throw new NoSuchElementException("the tape has no such byte");
        }
    }

    private void requirePlace(int from) {
        if (from < 0 || from > tape.length) {
            throw new IllegalArgumentException("from is not 0 .. size");
        }
    }

    private static void requireNames(int names) {
        if (names < 0 || names > NAME_MOST) {
            throw new IllegalArgumentException("names is not 0 .. 20");
        }
    }

    /** What was found right at any level is right at the last one, too, so it is read again at that one. */
    private void startAtFrame(int i) {
        if (i < 0 || i >= reading.frameCount) {
            throw new NoSuchElementException("no such frame");
        }
        reader.start(reading.placeOf(i), reading.limit);
    }

    private static boolean isNumber(long v) {
        return v >= 0 && v <= GREATEST_NUMBER;
    }

    private static boolean isNumberOrNone(long v) {
        return v == -1 || isNumber(v);
    }

    private static boolean isNumberSize(int n) {
        return n == 1 || n == 2 || n == 4 || n == 8;
    }

    private static int fewestBytes(long v) {
        if (v < 64) {
            return 1;
        }
        if (v < 16384) {
            return 2;
        }
        return v < 1073741824 ? 4 : 8;
    }

    /** What a kind asks of its fields beyond that they are numbers; reading and writing must agree on it. */
    private static boolean fieldsHold(int kind, long a, long b, long bytes) {
        switch (kind) {
            case TOKEN:
                return bytes > 0;
            case CRYPTO:
            case STREAM:
                return b <= GREATEST_NUMBER - bytes;
            case MAX_STREAMS:
            case MAX_STREAMS_TOO:
            case STREAMS_BLOCKED:
            case STREAMS_BLOCKED_TOO:
                return a <= MOST_STREAMS;
            case NEW_NAME:
                return b <= a && bytes >= 1 && bytes <= NAME_MOST;
            default:
                return true;
        }
    }

    /** The bytes; what is being written stays unseen behind them until it is known that all of it has room. */
    private static final class Tape {
        private byte[] bytes = new byte[TAPE_AT_FIRST];
        private int cursor;
        int length;

        int byteAt(int i) {
            return i >= 0 && i < bytes.length ? bytes[i] & 255 : 0;
        }

        int numberBytesAt(int i) {
            return 1 << (byteAt(i) >> 6);
        }

        long numberAt(int i, int n) {
            return wordAt(i, n) & (1L << (8 * n - 2)) - 1;
        }

        long wordAt(int i, int n) {
            long v = 0;
            for (int k = i; k < i + n; k++) {
                v = v << 8 | (k >= 0 && k < bytes.length ? bytes[k] & 255 : 0);
            }
            return v;
        }

        void startWriting() {
            cursor = length;
        }

        boolean endWriting() {
            if (cursor > TAPE_MOST) {
                return false;
            }
            length = cursor;
            return true;
        }

        void writeByte(int b) {
            if (cursor >= bytes.length && bytes.length < TAPE_MOST) {
                bytes = Arrays.copyOf(bytes, 2 * bytes.length);
            }
            if (cursor >= 0 && cursor < bytes.length) {
                bytes[cursor] = (byte) b;
            }
            // Counted beyond the last place, too: that tells endWriting how much there would have been.
            cursor++;
        }

        void writeWord(long v, int n) {
            for (int k = n - 1; k >= 0; k--) {
                writeByte((int) (v >> 8 * k));
            }
        }

        /** With n 0 in the fewest bytes, as with the face's number. */
        void writeNumber(long v, int n) {
            int size = n == 0 ? fewestBytes(v) : n;
            long sizeBits = size == 8 ? 3 : size >> 1;
            writeWord(v | sizeBits << (8 * size - 2), size);
        }

        void writeBytes(byte[] from, int first, int behind) {
            for (int k = first; k >= 0 && k < behind && k < from.length; k++) {
                writeByte(from[k]);
            }
        }
    }

    /** Goes over the tape up to a limit. Once the bytes are over, all that is taken is 0 and the place stays. */
    private static final class Reader {
        private final Tape tape;
        int place;
        int limit;
        boolean over;

        Reader(Tape tape) {
            this.tape = tape;
        }

        void start(int from, int end) {
            place = from;
            limit = end;
            over = false;
        }

        int left() {
            return limit - place;
        }

        int takeBytes(long n) {
            int from = place;
            if (over || n > left()) {
                over = true;
            } else {
                place += (int) n;
            }
            return from;
        }

        long takeWord(int n) {
            int from = takeBytes(n);
            return over ? 0 : tape.wordAt(from, n);
        }

        long takeNumber() {
            int n = tape.numberBytesAt(place);
            if (over || n > limit - place) {
                over = true;
                return 0;
            }
            long v = tape.numberAt(place, n);
            place += n;
            return v;
        }

        /** Data that was taken already, as a number; -1 when it is not just one. */
        long numberOfAll(int from, long bytes) {
            if (bytes < 1 || tape.numberBytesAt(from) != bytes) {
                return -1;
            }
            return tape.numberAt(from, (int) bytes);
        }

        int takeZeros() {
            int from = place;
            for (int k = from; k < limit && tape.byteAt(k) == 0; k++) {
                place = k + 1;
            }
            return place - from;
        }
    }

    /** What was read last: where its frames or its packets begin, and what was wrong. */
    private static final class Reading {
        // One table for both, as each reading forgets the frames and packets of the one before.
        private int[] places = new int[PLACES_AT_FIRST];
        int frameCount;
        int packetCount;
        int limit;
        int names;
        int wrong;
        int wrongPlace = -1;

        void restart(int end, int nameBytes) {
            frameCount = 0;
            packetCount = 0;
            limit = end;
            names = nameBytes;
            wrong = FAULT_NONE;
            wrongPlace = -1;
        }

        void fail(int fault, int place) {
            wrong = fault;
            wrongPlace = place;
        }

        void keepFrame(int place) {
            keepPlace(frameCount, place);
            frameCount++;
        }

        void keepPacket(int place) {
            keepPlace(packetCount, place);
            packetCount++;
        }

        int placeOf(int i) {
            return i >= 0 && i < places.length ? places[i] : 0;
        }

        private void keepPlace(int i, int place) {
            if (i >= places.length && places.length < TAPE_MOST) {
                places = Arrays.copyOf(places, 2 * places.length);
            }
            if (i >= 0 && i < places.length) {
                places[i] = place;
            }
        }
    }

    /** A frame as it was read; one object serves all of them. */
    private static final class Frame {
        final long[] parts = new long[FRAME_PARTS];
        int dataPlace;
        int secretPlace;
        int secretBytes;
        int rangesPlace;
        long low;
        long high;

        int parse(Reader in, int level) {
            forget();
            parts[BEGIN] = in.place;
            int first = (int) in.takeWord(1);
            if (first < 0 || first > KIND_LAST) {
                return FAULT_KIND;
            }
            if (level != LEVEL_LAST && (EARLY_KINDS >> first & 1) == 0) {
                return FAULT_LEVEL;
            }
            int kind = first > STREAM && first <= STREAM_LAST ? STREAM : first;
            parts[KIND] = kind;
            takeShape(in, SHAPES[first]);
            takeRest(in, kind, first);
            if (in.over) {
                return FAULT_CUT;
            }
            parts[END] = in.place;
            boolean right = low >= 0 && fieldsHold(kind, parts[A], parts[B], parts[BYTES]);
            return right ? FAULT_NONE : FAULT_VALUE;
        }

        /** Leaves the ends of range k in low and high; low is below 0 when a range up to there is. */
        void walkRanges(Reader in, int k) {
            high = parts[A];
            low = high - in.takeNumber();
            for (int j = 0; j < k; j++) {
                long gap = in.takeNumber();
                long size = in.takeNumber();
                // What is below 0 once is not lowered any more, lest it wrap round.
                high = low < 0 ? low : low - gap - 2;
                low = high < 0 ? high : high - size;
            }
        }

        /** The places count only where there are bytes or ranges, so they may stay. */
        private void forget() {
            Arrays.fill(parts, 0L);
            secretBytes = 0;
            low = 0;
        }

        private void takeShape(Reader in, int shape) {
            if ((shape & HAS_A) != 0) {
                parts[A] = in.takeNumber();
            }
            if ((shape & HAS_B) != 0) {
                parts[B] = in.takeNumber();
            }
            if ((shape & HAS_C) != 0) {
                parts[C] = in.takeNumber();
            }
            if ((shape & HAS_DATA) != 0) {
                takeData(in, in.takeNumber());
            }
        }

        private void takeRest(Reader in, int kind, int first) {
            switch (kind) {
                case PADDING:
                    parts[A] = 1 + in.takeZeros();
                    break;
                case ACK:
                case ACK_COUNTS:
                    takeRangeCount(in);
                    walkRanges(in, (int) parts[RANGES] - 1);
                    takeCounts(in, kind);
                    break;
                case STREAM:
                    takeStream(in, first);
                    break;
                case NEW_NAME:
                    takeData(in, in.takeWord(1));
                    secretPlace = in.takeBytes(SECRET_BYTES);
                    secretBytes = SECRET_BYTES;
                    break;
                case CHALLENGE:
                case RESPONSE:
                    parts[A] = in.takeWord(8);
                    break;
                default:
                    break;
            }
        }

        private void takeData(Reader in, long bytes) {
            dataPlace = in.takeBytes(bytes);
            parts[BYTES] = bytes;
        }

        private void takeStream(Reader in, int first) {
            parts[C] = first & STREAM_FIN;
            if ((first & STREAM_LENGTH) != 0) {
                parts[D] = 1;
            } else {
                takeData(in, in.left());
            }
        }

        private void takeRangeCount(Reader in) {
            long more = in.takeNumber();
            rangesPlace = in.place;
            // Each of them has two bytes at least, so a count that can't be true is never walked through.
            if (more > in.left() / 2) {
                in.over = true;
            } else {
                parts[RANGES] = more + 1;
            }
        }

        private void takeCounts(Reader in, int kind) {
            for (int k = COUNTS; kind == ACK_COUNTS && k < FRAME_PARTS; k++) {
                parts[k] = in.takeNumber();
            }
        }
    }

    /** A packet's header as it was read; one object serves all of them. */
    private static final class Header {
        final int[] parts = new int[PACKET_PARTS];

        int parse(Reader in, int names) {
            Arrays.fill(parts, 0);
            parts[PACKET_BEGIN] = in.place;
            int first = (int) in.takeWord(1);
            if (in.over) {
                return FAULT_CUT;
            }
            if ((first & FIXED_BIT) == 0) {
                return FAULT_FIXED;
            }
            return (first & LONG_BIT) != 0 ? parseLong(in, first) : parseShort(in, first, names);
        }

        boolean goesTo(Tape tape, int namePlace, int nameBytes) {
            boolean same = parts[TO_BYTES] == nameBytes;
            for (int k = 0; same && k < nameBytes; k++) {
                same = tape.byteAt(parts[TO_PLACE] + k) == tape.byteAt(namePlace + k);
            }
            return same;
        }

        private int parseShort(Reader in, int first, int names) {
            parts[PACKET_KIND] = SHORT;
            parts[PACKET_R] = first & FIXED_BIT - 1;
            parts[TO_PLACE] = in.takeBytes(names);
            parts[TO_BYTES] = names;
            parts[PACKET_NUMBER] = in.place;
            parts[PACKET_END] = in.limit;
            return in.over || in.left() < PACKET_LEAST ? FAULT_CUT : FAULT_NONE;
        }

        private int parseLong(Reader in, int first) {
            parts[PACKET_KIND] = first >> 4 & 3;
            parts[PACKET_R] = first & 15;
            long version = in.takeWord(4);
            int wrong = sizeOfName(in, TO_BYTES);
            if (wrong == FAULT_CUT) {
                return FAULT_CUT;
            }
            if (version != VERSION) {
                return FAULT_VERSION;
            }
            parts[PACKET_VERSION] = VERSION;
            if (wrong != FAULT_NONE) {
                return wrong;
            }
            parts[TO_PLACE] = in.takeBytes(parts[TO_BYTES]);
            wrong = sizeOfName(in, BY_BYTES);
            if (wrong != FAULT_NONE) {
                return wrong;
            }
            parts[BY_PLACE] = in.takeBytes(parts[BY_BYTES]);
            if (in.over) {
                return FAULT_CUT;
            }
            boolean refused = parts[PACKET_KIND] == EARLY || parts[PACKET_KIND] == RETRY;
            return refused ? FAULT_REFUSED : parseTokenAndLength(in);
        }

        private int sizeOfName(Reader in, int what) {
            int bytes = (int) in.takeWord(1);
            if (in.over) {
                return FAULT_CUT;
            }
            if (what >= 0 && what < PACKET_PARTS) {
                parts[what] = bytes;
            }
            return bytes > NAME_MOST ? FAULT_NAME : FAULT_NONE;
        }

        private int parseTokenAndLength(Reader in) {
            if (parts[PACKET_KIND] == INITIAL) {
                long bytes = in.takeNumber();
                parts[TOKEN_PLACE] = in.takeBytes(bytes);
                parts[TOKEN_BYTES] = (int) bytes;
            }
            long length = in.takeNumber();
            parts[PACKET_NUMBER] = in.place;
            in.takeBytes(length);
            parts[PACKET_END] = in.place;
            return in.over || length < PACKET_LEAST ? FAULT_CUT : FAULT_NONE;
        }
    }

    /** What the caller gathers for the next frames and headers that are written. */
    private static final class Draft {
        final long[] parts = new long[FRAME_PARTS];
        private final byte[] bytes = new byte[DATA_MOST];
        private final long[] lows = new long[RANGES_MOST];
        private final long[] highs = new long[RANGES_MOST];
        int length;
        int ranges;

        void empty() {
            Arrays.fill(parts, 0L);
            length = 0;
            ranges = 0;
        }

        void append(long v, int n) {
            for (int k = n - 1; k >= 0 && length >= 0 && length < bytes.length; k--) {
                bytes[length] = (byte) (v >> 8 * k);
                length++;
            }
        }

        boolean isBelowRanges(long high) {
            int last = ranges - 1;
            return last < 0 || last >= lows.length || high <= lows[last] - 2;
        }

        void appendRange(long low, long high) {
            if (ranges >= 0 && ranges < lows.length && ranges < highs.length) {
                lows[ranges] = low;
                highs[ranges] = high;
                ranges++;
            }
        }

        boolean isFrame(int kind) {
            if (kind < 0 || kind > KIND_LAST || kind > STREAM && kind <= STREAM_LAST) {
                return false;
            }
            switch (kind) {
                case PADDING:
                    return parts[A] >= 1 && parts[A] <= PADDING_MOST;
                case ACK:
                    return isAck();
                case ACK_COUNTS:
                    return isAck() && hasCounts();
                case STREAM:
                    return isBit(parts[C]) && isBit(parts[D]) && hasShape(kind);
                default:
                    return hasShape(kind);
            }
        }

        boolean isHeader(int kind, int r, int to, int by, int packetLength) {
            boolean isShort = kind == SHORT;
            if (kind != INITIAL && kind != HANDSHAKE && !isShort) {
                return false;
            }
            if (r < 0 || r > (isShort ? 63 : 15)) {
                return false;
            }
            if (to < 0 || to > NAME_MOST || by < 0 || by > (isShort ? 0 : NAME_MOST)) {
                return false;
            }
            if (length < to + by || kind == HANDSHAKE && length > to + by) {
                return false;
            }
            return isShort || packetLength >= PACKET_LEAST && packetLength <= LENGTH_MOST;
        }

        void writeFrame(Tape out, int kind) {
            if (kind == PADDING) {
                for (int k = 0; k < PADDING_MOST && k < parts[A]; k++) {
                    out.writeByte(0);
                }
                return;
            }
            int first = firstByte(kind);
            out.writeByte(first);
            if (kind == ACK || kind == ACK_COUNTS) {
                writeAck(out, kind);
                return;
            }
            int shape = shapeOf(first);
            writeShape(out, shape);
            if (kind == NEW_NAME) {
                out.writeByte(length - SECRET_BYTES);
            }
            if (kind == CHALLENGE || kind == RESPONSE) {
                out.writeWord(parts[A], 8);
            }
            if ((shape & HAS_DATA) != 0 || kind == STREAM || kind == NEW_NAME) {
                out.writeBytes(bytes, 0, length);
            }
        }

        void writeHeader(Tape out, int kind, int r, int to, int by, int packetLength) {
            if (kind == SHORT) {
                out.writeByte(FIXED_BIT + r);
                out.writeBytes(bytes, 0, to);
                return;
            }
            out.writeByte(LONG_BIT + FIXED_BIT + 16 * kind + r);
            out.writeWord(VERSION, 4);
            out.writeByte(to);
            out.writeBytes(bytes, 0, to);
            out.writeByte(by);
            out.writeBytes(bytes, to, to + by);
            if (kind == INITIAL) {
                out.writeNumber(length - to - by, 0);
                out.writeBytes(bytes, to + by, length);
            }
            out.writeNumber(packetLength, 2);
        }

        private static boolean isBit(long v) {
            return v == 0 || v == 1;
        }

        private static int shapeOf(int first) {
            return first >= 0 && first < SHAPES.length ? SHAPES[first] : 0;
        }

        private int firstByte(int kind) {
            if (kind != STREAM) {
                return kind;
            }
            return STREAM
                    | (parts[B] != 0 ? STREAM_OFFSET : 0)
                    | (parts[D] == 1 ? STREAM_LENGTH : 0)
                    | (parts[C] == 1 ? STREAM_FIN : 0);
        }

        private boolean isAck() {
            // All other ranges are below the first one, so its greatest speaks for all.
            return ranges > 0 && isNumber(highs[0]) && isNumber(parts[B]);
        }

        private boolean hasCounts() {
            boolean right = true;
            for (int k = COUNTS; k < FRAME_PARTS; k++) {
                right = right && isNumber(parts[k]);
            }
            return right;
        }

        private boolean hasShape(int kind) {
            int shape = shapeOf(firstByte(kind));
            boolean numbers = ((shape & HAS_A) == 0 || isNumber(parts[A]))
                    && ((shape & HAS_B) == 0 || isNumber(parts[B]))
                    && ((shape & HAS_C) == 0 || isNumber(parts[C]));
            int dataBytes = kind == NEW_NAME ? length - SECRET_BYTES : length;
            return numbers && fieldsHold(kind, parts[A], parts[B], dataBytes);
        }

        private void writeShape(Tape out, int shape) {
            if ((shape & HAS_A) != 0) {
                out.writeNumber(parts[A], 0);
            }
            if ((shape & HAS_B) != 0) {
                out.writeNumber(parts[B], 0);
            }
            if ((shape & HAS_C) != 0) {
                out.writeNumber(parts[C], 0);
            }
            if ((shape & HAS_DATA) != 0) {
                out.writeNumber(length, 0);
            }
        }

        private void writeAck(Tape out, int kind) {
            out.writeNumber(highs[0], 0);
            out.writeNumber(parts[B], 0);
            out.writeNumber(ranges - 1, 0);
            out.writeNumber(highs[0] - lows[0], 0);
            for (int k = 1; k < ranges && k < lows.length && k < highs.length; k++) {
                out.writeNumber(lows[k - 1] - highs[k] - 2, 0);
                out.writeNumber(highs[k] - lows[k], 0);
            }
            for (int k = COUNTS; kind == ACK_COUNTS && k < FRAME_PARTS; k++) {
                out.writeNumber(parts[k], 0);
            }
        }
    }

    /** The parameters of the latest reading of them, or what stands for those that were not there. */
    private static final class Parameters {
        static final int ID_LAST = 16;
        private static final int ID_NO_DATA = 12;
        // The bits of the ids whose data is bytes, not one number: 0, 2, 12, 13, 15, 16.
        private static final int OF_BYTES = 1 | 1 << 2 | 1 << 12 | 1 << 13 | 1 << 15 | 1 << 16;
        // The bits of the ids 0, 2, 13, 16.
        private static final int OF_ANSWERING = 1 | 1 << 2 | 1 << 13 | 1 << 16;
        // Of each id the number, or how many bytes: when it is not there, the least and the most that are right.
        private static final long[] ABSENT = {-1, 0, -1, 65527, 0, 0, 0, 0, 0, 0, 3, 25, 0, -1, 2, -1, -1};
        private static final long[] LEAST = {0, 0, 16, 1200, 0, 0, 0, 0, 0, 0, 0, 0, 0, 41, 2, 0, 0};
        private static final long[] MOST = {
            20, GREATEST_NUMBER, 16, GREATEST_NUMBER, GREATEST_NUMBER, GREATEST_NUMBER, GREATEST_NUMBER,
            GREATEST_NUMBER, MOST_STREAMS, MOST_STREAMS, 20, 16383, 0, 61, GREATEST_NUMBER, 20, 20
        };

        final long[] values = Arrays.copyOf(ABSENT, ABSENT.length);
        // A bit for each id that was there.
        int seen;

        void forget() {
            System.arraycopy(ABSENT, 0, values, 0, ABSENT.length);
            seen = 0;
        }

        int parseNext(Reader in, boolean answers) {
            long id = in.takeNumber();
            long bytes = in.takeNumber();
            int place = in.takeBytes(bytes);
            if (in.over) {
                return FAULT_CUT;
            }
            if (id < 0 || id > ID_LAST) {
                return FAULT_NONE;
            }
            int known = (int) id;
            int bit = 1 << known;
            if ((seen & bit) != 0) {
                return FAULT_KIND;
            }
            if (!answers && (OF_ANSWERING & bit) != 0) {
                return FAULT_LEVEL;
            }
            long value = (OF_BYTES & bit) != 0 ? bytes : in.numberOfAll(place, bytes);
            if (value < LEAST[known] || value > MOST[known]) {
                return FAULT_VALUE;
            }
            seen |= bit;
            values[known] = known == ID_NO_DATA ? 1 : value;
            return FAULT_NONE;
        }
    }
}
