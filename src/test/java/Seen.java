/**
 * All that can be seen of an object, as text. A draft is seen only by what it writes, so the tape is emptied for it and
 * the object is of no use behind this. With what made the object the calls stay below 512.
 */
final class Seen {
    private interface Answer {
        long get();
    }

    private final WireCodec x;
    private final StringBuilder text = new StringBuilder();

    private Seen(WireCodec x) {
        this.x = x;
    }

    static String of(WireCodec x) {
        Seen seen = new Seen(x);
        seen.tape(100);
        seen.read();
        x.clear();
        seen.draft();
        return seen.text.toString();
    }

    private void say(String call, Answer answer) {
        text.append(call).append('=');
        try {
            text.append(answer.get());
        } catch (RuntimeException e) {
            text.append(e.getClass().getSimpleName());
        }
        text.append(' ');
    }

    private void tape(int most) {
        int size = x.size();
        text.append("size=").append(size).append(' ');
        for (int k = 0; k < size; k = k == most ? Math.max(k + 1, size - 4) : k + 1) {
            int i = k;
            say("at" + i, () -> x.at(i));
        }
        say("behind", () -> x.at(size));
    }

    private void read() {
        say("fault", () -> x.fault(false));
        say("place", () -> x.fault(true));
        for (int i = 0; i < 3; i++) {
            frame(i);
        }
        for (int k = 0; k < 2 * 12; k++) {
            int i = k / 12;
            int what = k % 12;
            say("packet" + i + "." + what, () -> x.packet(i, what));
        }
        for (int k = 0; k <= 16; k++) {
            int id = k;
            say("parameter" + id, () -> x.parameter(id));
        }
    }

    private void frame(int i) {
        for (int k = 0; k < 12; k++) {
            int what = k;
            say("frame" + i + "." + what, () -> x.frame(i, what));
        }
        for (int k = 0; k < 2; k++) {
            int j = k;
            say("data", () -> x.data(i, j, false));
            say("secret", () -> x.data(i, j, true));
            say("least", () -> x.range(i, j, false));
            say("greatest", () -> x.range(i, j, true));
        }
    }

    private void draft() {
        int[] kinds = {4, 27, 3, 8};
        for (int kind : kinds) {
            say("put" + kind, () -> x.put(kind));
        }
        tape(80);
    }
}
