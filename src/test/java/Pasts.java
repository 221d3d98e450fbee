import java.util.List;

/** Objects that have something of everything: a tape, what was read of it with a fault, parameters, and a draft. */
final class Pasts {
    static final List<Due.Past> ALL = List.of(
            WireCodec::new, () -> framesRead(0), () -> datagramRead(0), Pasts::headRead, Pasts::parametersWrong);

    private Pasts() {
    }

    /** Three frames, and a byte that is no kind behind them; the tape is filled with 0 up to the size. */
    static WireCodec framesRead(int size) {
        WireCodec x = parametersRead();
        Due.feed(x, "0f 05 09 03 aabbcc" + "18 07 06 02 ddee" + "0102030405060708 090a0b0c0d0e0f10");
        Due.feed(x, "03 0a 01 01 02 03 03 07 08 09" + "1f");
        Due.fill(x, size);
        x.frames(3, 2);
        draft(x);
        return x;
    }

    /** A packet, and one to another name behind it; the tape is filled with 0 up to the size. */
    static WireCodec datagramRead(int size) {
        WireCodec x = parametersRead();
        Due.feed(x, "c5 00000001 02 aabb 01 cc 02 0102 14" + Due.bytes(20));
        Due.feed(x, "e0 00000001 02 aabc 01 cc 14" + Due.bytes(20));
        Due.fill(x, size);
        x.datagram(3, 2);
        draft(x);
        return x;
    }

    private static WireCodec headRead() {
        WireCodec x = parametersRead();
        Due.feed(x, "7f aabb" + Due.bytes(20));
        x.head(3, 2);
        draft(x);
        return x;
    }

    private static WireCodec parametersWrong() {
        WireCodec x = parametersRead();
        Due.feed(x, "04 01 06");
        x.parameters(0, false);
        draft(x);
        return x;
    }

    private static WireCodec parametersRead() {
        WireCodec x = Due.tape("04 01 05");
        x.parameters(0, false);
        return x;
    }

    private static void draft(WireCodec x) {
        x.set(0, 5);
        x.set(1, 9);
        x.set(2, 1);
        x.set(3, 1);
        x.set(9, 7);
        x.set(10, 64);
        x.set(11, 9);
        Due.add(x, "ddeeff");
        x.span(90, 93);
        x.span(80, 80);
    }
}
