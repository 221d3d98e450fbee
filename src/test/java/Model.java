import java.math.BigInteger;
import java.util.ArrayList;
import java.util.HashMap;
import java.util.List;
import java.util.Map;
import java.util.NoSuchElementException;

/**
 * A second, slow reading of the document, for RandomRunsTest: everything is kept as it was read, and the end of the
 * bytes is an exception.
 */
final class Model {
    private static final long MAX = (1L << 62) - 1;

    private static final class Over extends RuntimeException {
        private static final long serialVersionUID = 1;
    }

    private static final class Wrong extends RuntimeException {
        private static final long serialVersionUID = 1;
        final int fault;

        Wrong(int fault) {
            this.fault = fault;
        }
    }

    private static final class ReadFrame {
        final long[] what = new long[12];
        List<Integer> data = new ArrayList<>();
        List<Integer> secret = new ArrayList<>();
        final List<long[]> ranges = new ArrayList<>();
    }

    private final List<Integer> tape = new ArrayList<>();
    private final List<ReadFrame> frames = new ArrayList<>();
    private final List<long[]> packets = new ArrayList<>();
    private Map<Integer, Long> told = new HashMap<>();
    private int fault;
    private int faultPlace = -1;
    private int pos;

    private long[] fields = new long[12];
    private final List<Integer> draftData = new ArrayList<>();
    private final List<long[]> draftRanges = new ArrayList<>();

    private static void argument(boolean right) {
        if (!right) {
            throw new IllegalArgumentException();
        }
    }

    private static void element(boolean right) {
        if (!right) {
            throw new NoSuchElementException();
        }
    }

    private static boolean in(long v, long least, long most) {
        return v >= least && v <= most;
    }

    // ---- the tape

    private int write(List<Integer> bytes) {
        if (tape.size() + bytes.size() > 65536) {
            throw new IllegalStateException();
        }
        tape.addAll(bytes);
        return tape.size();
    }

    private static List<Integer> word(long v, int n) {
        List<Integer> bytes = new ArrayList<>();
        for (int k = 0; k < n; k++) {
            bytes.add(0, (int) (v & 255));
            v >>= 8;
        }
        return bytes;
    }

    private static List<Integer> num(long v, int n) {
        for (int code = 0; code < 4; code++) {
            int size = 1 << code;
            BigInteger above = BigInteger.ONE.shiftLeft(8 * size - 2);
            if ((n == 0 || n == size) && BigInteger.valueOf(v).compareTo(above) < 0) {
                List<Integer> bytes = word(v, size);
                bytes.set(0, bytes.get(0) + 64 * code);
                return bytes;
            }
        }
        throw new IllegalArgumentException();
    }

    int feed(long v, int n) {
        argument(in(n, 1, 8));
        return write(word(v, n));
    }

    int number(long v, int n) {
        argument(in(v, 0, MAX));
        return write(num(v, n));
    }

    int clear() {
        int had = tape.size();
        tape.clear();
        restart();
        told = new HashMap<>();
        return had;
    }

    int size() {
        return tape.size();
    }

    int at(int i) {
        element(in(i, 0, tape.size() - 1));
        return tape.get(i);
    }

    long read(int from) {
        element(in(from, 0, tape.size() - 1));
        pos = from;
        try {
            return n();
        } catch (Over e) {
            return -1;
        }
    }

    // ---- reading

    private void restart() {
        frames.clear();
        packets.clear();
        fault = 0;
        faultPlace = -1;
    }

    private void wrong(int what, int place) {
        fault = what;
        faultPlace = place;
    }

    private int one() {
        if (pos >= tape.size()) {
            throw new Over();
        }
        return tape.get(pos++);
    }

    private long x(int k) {
        long v = 0;
        for (int i = 0; i < k; i++) {
            v = v * 256 + one();
        }
        return v;
    }

    private long n() {
        int first = one();
        long v = first % 64;
        for (int i = 1; i < 1 << first / 64; i++) {
            v = v * 256 + one();
        }
        return v;
    }

    private List<Integer> data(long k) {
        if (k > tape.size() - pos) {
            throw new Over();
        }
        List<Integer> bytes = new ArrayList<>(tape.subList(pos, pos + (int) k));
        pos += (int) k;
        return bytes;
    }

    int frames(int from, int level) {
        argument(in(level, 0, 2) && in(from, 0, tape.size()));
        restart();
        pos = from;
        while (pos < tape.size()) {
            int place = pos;
            try {
                frames.add(readFrame(level));
            } catch (Over e) {
                wrong(1, place);
                break;
            } catch (Wrong e) {
                wrong(e.fault, place);
                break;
            }
        }
        return frames.size();
    }

    private ReadFrame readFrame(int level) {
        ReadFrame f = new ReadFrame();
        long[] w = f.what;
        w[7] = pos;
        int kind = one();
        if (kind > 30) {
            throw new Wrong(2);
        }
        if (level < 2 && !List.of(0, 1, 2, 3, 6, 28).contains(kind)) {
            throw new Wrong(4);
        }
        w[4] = kind >= 8 && kind <= 15 ? 8 : kind;
        boolean right = true;
        switch (kind) {
            case 0 -> {
                w[0] = 1;
                while (pos < tape.size() && tape.get(pos) == 0) {
                    pos++;
                    w[0]++;
                }
            }
            case 1, 30 -> { }
            case 2, 3 -> right = readAck(f, kind);
            case 4 -> {
                w[0] = n();
                w[1] = n();
                w[2] = n();
            }
            case 5, 17, 21 -> {
                w[0] = n();
                w[1] = n();
            }
            case 6 -> {
                w[1] = n();
                f.data = data(n());
                right = w[1] + f.data.size() <= MAX;
            }
            case 7 -> {
                f.data = data(n());
                right = !f.data.isEmpty();
            }
            case 16, 20, 25 -> w[0] = n();
            case 18, 19, 22, 23 -> {
                w[0] = n();
                right = w[0] <= 1L << 60;
            }
            case 24 -> {
                w[0] = n();
                w[1] = n();
                f.data = data(x(1));
                f.secret = data(16);
                right = w[1] <= w[0] && in(f.data.size(), 1, 20);
            }
            case 26, 27 -> w[0] = x(8);
            case 28 -> {
                w[0] = n();
                w[1] = n();
                f.data = data(n());
            }
            case 29 -> {
                w[0] = n();
                f.data = data(n());
            }
            default -> {
                w[0] = n();
                w[1] = kind / 4 % 2 == 1 ? n() : 0;
                w[2] = kind % 2;
                w[3] = kind / 2 % 2;
                f.data = data(w[3] == 1 ? n() : tape.size() - pos);
                right = w[1] + f.data.size() <= MAX;
            }
        }
        if (!right) {
            throw new Wrong(3);
        }
        w[5] = f.data.size();
        w[6] = f.ranges.size();
        w[8] = pos;
        return f;
    }

    private boolean readAck(ReadFrame f, int kind) {
        f.what[0] = n();
        f.what[1] = n();
        long more = n();
        BigInteger greatest = BigInteger.valueOf(f.what[0]);
        BigInteger least = greatest.subtract(BigInteger.valueOf(n()));
        boolean right = least.signum() >= 0;
        f.ranges.add(new long[] {least.longValue(), greatest.longValue()});
        for (long k = 0; k < more; k++) {
            greatest = least.subtract(BigInteger.valueOf(n())).subtract(BigInteger.TWO);
            least = greatest.subtract(BigInteger.valueOf(n()));
            right = right && least.signum() >= 0;
            f.ranges.add(new long[] {least.longValue(), greatest.longValue()});
        }
        for (int k = 9; k < 12 && kind == 3; k++) {
            f.what[k] = n();
        }
        return right;
    }

    int fault(boolean place) {
        return place ? faultPlace : fault;
    }

    long frame(int i, int what) {
        element(in(i, 0, frames.size() - 1) && in(what, 0, 11));
        return frames.get(i).what[what];
    }

    int data(int i, int j, boolean secret) {
        element(in(i, 0, frames.size() - 1));
        List<Integer> bytes = secret ? frames.get(i).secret : frames.get(i).data;
        element(in(j, 0, bytes.size() - 1));
        return bytes.get(j);
    }

    long range(int i, int k, boolean greatest) {
        element(in(i, 0, frames.size() - 1) && in(k, 0, frames.get(i).ranges.size() - 1));
        return frames.get(i).ranges.get(k)[greatest ? 1 : 0];
    }

    // ---- the draft

    void draft() {
        fields = new long[12];
        draftData.clear();
        draftRanges.clear();
    }

    void set(int what, long v) {
        argument(in(what, 0, 3) || in(what, 9, 11));
        fields[what] = v;
    }

    int add(long v, int n) {
        argument(in(n, 1, 8));
        if (draftData.size() + n > 2000) {
            throw new IllegalStateException();
        }
        draftData.addAll(word(v, n));
        return draftData.size();
    }

    void span(long low, long high) {
        argument(0 <= low && low <= high);
        if (!draftRanges.isEmpty()) {
            argument(high < draftRanges.get(draftRanges.size() - 1)[0] - 1);
        }
        if (draftRanges.size() == 500) {
            throw new IllegalStateException();
        }
        draftRanges.add(new long[] {low, high});
    }

    int put(int kind) {
        List<Integer> out = new ArrayList<>();
        long a = fields[0];
        long b = fields[1];
        int size = draftData.size();
        argument(in(kind, 0, 8) || in(kind, 16, 30));
        if (List.of(4, 5, 8, 16, 17, 18, 19, 20, 21, 22, 23, 24, 25, 28, 29).contains(kind)) {
            argument(in(a, 0, MAX));
        }
        if (List.of(2, 3, 4, 5, 6, 8, 17, 21, 24, 28).contains(kind)) {
            argument(in(b, 0, MAX));
        }
        out.add(kind);
        switch (kind) {
            case 0 -> {
                argument(in(a, 1, 2000));
                while (out.size() < a) {
                    out.add(0);
                }
            }
            case 1, 30 -> { }
            case 2, 3 -> putAck(out, kind);
            case 4 -> {
                argument(in(fields[2], 0, MAX));
                out.addAll(num(a, 0));
                out.addAll(num(b, 0));
                out.addAll(num(fields[2], 0));
            }
            case 5, 17, 21 -> {
                out.addAll(num(a, 0));
                out.addAll(num(b, 0));
            }
            case 6 -> {
                argument(b + size <= MAX);
                out.addAll(num(b, 0));
                out.addAll(num(size, 0));
                out.addAll(draftData);
            }
            case 7 -> {
                argument(size > 0);
                out.addAll(num(size, 0));
                out.addAll(draftData);
            }
            case 8 -> putStream(out);
            case 18, 19, 22, 23 -> {
                argument(a <= 1L << 60);
                out.addAll(num(a, 0));
            }
            case 24 -> {
                argument(b <= a && in(size, 17, 36));
                out.addAll(num(a, 0));
                out.addAll(num(b, 0));
                out.add(size - 16);
                out.addAll(draftData);
            }
            case 26, 27 -> out.addAll(word(a, 8));
            case 28 -> {
                out.addAll(num(a, 0));
                out.addAll(num(b, 0));
                out.addAll(num(size, 0));
                out.addAll(draftData);
            }
            case 29 -> {
                out.addAll(num(a, 0));
                out.addAll(num(size, 0));
                out.addAll(draftData);
            }
            default -> out.addAll(num(a, 0));
        }
        return write(out);
    }

    private void putStream(List<Integer> out) {
        long b = fields[1];
        argument(in(fields[2], 0, 1) && in(fields[3], 0, 1) && b + draftData.size() <= MAX);
        out.set(0, 8 + (b != 0 ? 4 : 0) + (int) (2 * fields[3] + fields[2]));
        out.addAll(num(fields[0], 0));
        if (b != 0) {
            out.addAll(num(b, 0));
        }
        if (fields[3] == 1) {
            out.addAll(num(draftData.size(), 0));
        }
        out.addAll(draftData);
    }

    private void putAck(List<Integer> out, int kind) {
        argument(!draftRanges.isEmpty() && draftRanges.get(0)[1] <= MAX);
        for (int k = 9; k < 12 && kind == 3; k++) {
            argument(in(fields[k], 0, MAX));
        }
        out.addAll(num(draftRanges.get(0)[1], 0));
        out.addAll(num(fields[1], 0));
        out.addAll(num(draftRanges.size() - 1, 0));
        long least = -1;
        for (long[] range : draftRanges) {
            if (least >= 0) {
                out.addAll(num(least - 2 - range[1], 0));
            }
            out.addAll(num(range[1] - range[0], 0));
            least = range[0];
        }
        for (int k = 9; k < 12 && kind == 3; k++) {
            out.addAll(num(fields[k], 0));
        }
    }

    // ---- headers

    int head(int from, int names) {
        argument(in(from, 0, tape.size()) && in(names, 0, 20));
        restart();
        long[] packet = readHeader(from, names);
        if (packet == null) {
            return -1;
        }
        packets.add(packet);
        return (int) packet[4];
    }

    int datagram(int from, int names) {
        argument(in(from, 0, tape.size()) && in(names, 0, 20));
        restart();
        int place = from;
        while (place < tape.size()) {
            long[] packet = readHeader(place, names);
            if (packet == null) {
                break;
            }
            if (!packets.isEmpty() && !nameTo(packets.get(0)).equals(nameTo(packet))) {
                wrong(6, place);
                break;
            }
            packets.add(packet);
            place = (int) packet[5];
        }
        return packets.size();
    }

    private List<Integer> nameTo(long[] packet) {
        return tape.subList((int) packet[6], (int) (packet[6] + packet[7]));
    }

    private long[] readHeader(int from, int names) {
        pos = from;
        try {
            long[] p = new long[12];
            p[3] = from;
            int first = one();
            if (first / 64 % 2 == 0) {
                throw new Wrong(2);
            }
            if (first < 128) {
                readShort(p, first, names);
            } else {
                readLong(p, first);
            }
            return p;
        } catch (Over e) {
            wrong(1, from);
        } catch (Wrong e) {
            wrong(e.fault, from);
        }
        return null;
    }

    private void readShort(long[] p, int first, int names) {
        p[0] = 4;
        p[1] = first % 64;
        p[6] = pos;
        p[7] = names;
        data(names);
        p[4] = pos;
        data(20);
        p[5] = tape.size();
    }

    private void readLong(long[] p, int first) {
        p[0] = first / 16 % 4;
        p[1] = first % 16;
        p[2] = x(4);
        p[7] = x(1);
        if (p[2] != 1) {
            throw new Wrong(3);
        }
        if (p[7] > 20) {
            throw new Wrong(5);
        }
        p[6] = pos;
        data(p[7]);
        p[9] = x(1);
        if (p[9] > 20) {
            throw new Wrong(5);
        }
        p[8] = pos;
        data(p[9]);
        if (p[0] == 1 || p[0] == 3) {
            throw new Wrong(4);
        }
        if (p[0] == 0) {
            p[11] = n();
            p[10] = pos;
            data(p[11]);
        }
        long length = n();
        p[4] = pos;
        data(length);
        p[5] = pos;
        if (length < 20) {
            throw new Over();
        }
    }

    long packet(int i, int what) {
        element(in(i, 0, packets.size() - 1) && in(what, 0, 11));
        return packets.get(i)[what];
    }

    int lead(int kind, int r, int to, int by, int length) {
        argument(kind == 0 || kind == 2 || kind == 4);
        argument(in(r, 0, kind == 4 ? 63 : 15) && in(to, 0, 20) && in(by, 0, kind == 4 ? 0 : 20));
        int size = draftData.size();
        argument(size >= to + by && (kind != 2 || size == to + by));
        argument(kind == 4 || in(length, 20, 16383));
        List<Integer> out = new ArrayList<>();
        if (kind == 4) {
            out.add(64 + r);
            out.addAll(draftData.subList(0, to));
            return write(out);
        }
        out.addAll(List.of(192 + 16 * kind + r, 0, 0, 0, 1, to));
        out.addAll(draftData.subList(0, to));
        out.add(by);
        out.addAll(draftData.subList(to, to + by));
        if (kind == 0) {
            out.addAll(num(size - to - by, 0));
            out.addAll(draftData.subList(to + by, size));
        }
        out.addAll(num(length, 2));
        return write(out);
    }

    int cut(long number, long acknowledged) {
        argument(in(number, 0, MAX) && in(acknowledged, -1, MAX) && number > acknowledged);
        long[] most = {128, 32768, 8388608, 2147483648L};
        for (int k = 0; k < 4; k++) {
            if (number - acknowledged <= most[k]) {
                return k + 1;
            }
        }
        return 0;
    }

    long grow(long largest, long bytes, int n) {
        argument(in(largest, -1, MAX) && in(n, 1, 4) && in(bytes, 0, (1L << 8 * n) - 1));
        BigInteger window = BigInteger.ONE.shiftLeft(8 * n);
        BigInteger next = BigInteger.valueOf(largest).add(BigInteger.ONE);
        BigInteger start = next.subtract(next.mod(window)).add(BigInteger.valueOf(bytes)).add(window.shiftLeft(1));
        BigInteger best = null;
        for (int k = 0; k < 5; k++) {
            BigInteger c = start.subtract(window.multiply(BigInteger.valueOf(k)));
            boolean there = c.signum() >= 0 && c.bitLength() <= 62;
            if (there && (best == null || c.subtract(next).abs().compareTo(best.subtract(next).abs()) < 0)) {
                best = c;
            }
        }
        return best.longValue();
    }

    // ---- parameters

    int parameters(int from, boolean answers) {
        argument(in(from, 0, tape.size()));
        restart();
        told = new HashMap<>();
        pos = from;
        Map<Integer, Long> found = new HashMap<>();
        while (pos < tape.size()) {
            int place = pos;
            try {
                readParameter(found, answers);
            } catch (Over e) {
                wrong(1, place);
                return -1;
            } catch (Wrong e) {
                wrong(e.fault, place);
                return -1;
            }
        }
        told = found;
        return found.size();
    }

    private void readParameter(Map<Integer, Long> found, boolean answers) {
        long known = n();
        List<Integer> bytes = data(n());
        if (known > 16) {
            return;
        }
        int id = (int) known;
        if (found.containsKey(id)) {
            throw new Wrong(2);
        }
        if (!answers && List.of(0, 2, 13, 16).contains(id)) {
            throw new Wrong(4);
        }
        long size = bytes.size();
        long v = size;
        boolean right = switch (id) {
            case 0, 15, 16 -> size <= 20;
            case 2 -> size == 16;
            case 12 -> size == 0;
            case 13 -> in(size, 41, 61);
            default -> {
                v = numberOf(bytes);
                yield v >= 0;
            }
        };
        right = right && switch (id) {
            case 3 -> v >= 1200;
            case 8, 9 -> v <= 1L << 60;
            case 10 -> v <= 20;
            case 11 -> v < 16384;
            case 14 -> v >= 2;
            default -> true;
        };
        if (!right) {
            throw new Wrong(3);
        }
        found.put(id, id == 12 ? 1 : v);
    }

    private static long numberOf(List<Integer> bytes) {
        if (bytes.isEmpty() || bytes.size() != 1 << bytes.get(0) / 64) {
            return -1;
        }
        long v = bytes.get(0) % 64;
        for (int k = 1; k < bytes.size(); k++) {
            v = v * 256 + bytes.get(k);
        }
        return v;
    }

    long parameter(int id) {
        element(in(id, 0, 16));
        long absent = switch (id) {
            case 0, 2, 13, 15, 16 -> -1;
            case 3 -> 65527;
            case 10 -> 3;
            case 11 -> 25;
            case 14 -> 2;
            default -> 0;
        };
        return told.getOrDefault(id, absent);
    }
}
