/**
 * All that can be seen of an object, as text. Each aspect is seen on an object of its own, so that no look at one can
 * change what is seen of another; with what made it, each object gets fewer than 512 calls.
 */
final class Seen {
    private interface Answer {
        long get();
    }

    private final StringBuilder text = new StringBuilder();

    private Seen() {
    }

    static String of(Due.Past past) {
        Seen seen = new Seen();
        seen.fault(past.make());
        seen.frames(past.make());
        seen.packets(past.make());
        seen.parameters(past.make());
        seen.tape(past.make());
        seen.draft(past.make());
        return seen.text.toString();
    }

    private void say(String call, Answer answer) {
        text.append(call).append('=');
        try {
            text.append(answer.get());
        } catch (RuntimeException e) {
            text.append(e.getClass().getSimpleName());
        }
        text.append(' ');
    }

    private void fault(WireCodec x) {
        say("fault", () -> x.fault(false));
        say("place", () -> x.fault(true));
    }

    private void frames(WireCodec x) {
        for (int k = 0; k < 3 * 12; k++) {
            int i = k / 12;
            int what = k % 12;
            say("frame" + i + "." + what, () -> x.frame(i, what));
        }
        for (int k = 0; k < 3 * 2; k++) {
            int i = k / 2;
            int j = k % 2;
            say("data" + i, () -> x.data(i, j, false));
            say("secret" + i, () -> x.data(i, j, true));
            say("least" + i, () -> x.range(i, j, false));
            say("greatest" + i, () -> x.range(i, j, true));
        }
    }

    private void packets(WireCodec x) {
        for (int k = 0; k < 2 * 12; k++) {
            int i = k / 12;
            int what = k % 12;
            say("packet" + i + "." + what, () -> x.packet(i, what));
        }
    }

    private void parameters(WireCodec x) {
        for (int k = 0; k <= 16; k++) {
            int id = k;
            say("parameter" + id, () -> x.parameter(id));
        }
    }

    /** Its first bytes, and its last ones. */
    private void tape(WireCodec x) {
        int size = x.size();
        text.append("size=").append(size).append(' ');
        for (int k = 0; k < size; k = k == 100 ? Math.max(k + 1, size - 4) : k + 1) {
            int i = k;
            say("at" + i, () -> x.at(i));
        }
        say("behind", () -> x.at(size));
    }

    /** A draft is seen by what it writes, for which the tape must have room. */
    private void draft(WireCodec x) {
        x.clear();
        int[] kinds = {4, 27, 3, 8};
        for (int kind : kinds) {
            say("put" + kind, () -> x.put(kind));
        }
        tape(x);
    }
}
