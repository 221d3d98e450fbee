/** Promises 1 to 7: a new object, feed, number, clear, size, at, read. */
public final class TapeTest {
    private static final Due due = new Due("TapeTest");

    public static void main(String[] args) {
        newObject();
        feed();
        feedRoom();
        number();
        numberEdges();
        numberRoom();
        clear();
        sizeAndAt();
        read();
        due.end();
    }

    private static void newObject() {
        WireCodec x = new WireCodec();
        due.is("size()", x.size(), 0);
        due.is("fault(false)", x.fault(false), 0);
        due.is("fault(true)", x.fault(true), -1);
        due.fails("frame(0, 0)", Due.NO_SUCH, () -> x.frame(0, 0));
        due.fails("data(0, 0, false)", Due.NO_SUCH, () -> x.data(0, 0, false));
        due.fails("range(0, 0, false)", Due.NO_SUCH, () -> x.range(0, 0, false));
        due.fails("packet(0, 0)", Due.NO_SUCH, () -> x.packet(0, 0));
        due.is("parameter(3)", x.parameter(3), 65527);
        due.is("parameter(0)", x.parameter(0), -1);
        due.fails("put(2) of an empty draft", Due.ARGUMENT, () -> x.put(2));
        due.fails("put(7) of an empty draft", Due.ARGUMENT, () -> x.put(7));
        due.fails("put(0) of an empty draft", Due.ARGUMENT, () -> x.put(0));
        due.is("put(4) of an empty draft", x.put(4), 4);
        due.tapeIs("put(4) of an empty draft", x, 0, "04 00 00 00");
    }

    private static void feed() {
        WireCodec x = new WireCodec();
        due.is("feed 1", x.feed(0x1ff, 1), 1);
        due.is("feed 3", x.feed(0x0a0b0c, 3), 4);
        due.is("feed 8", x.feed(-2, 8), 12);
        due.tapeIs("feed", x, 0, "ff 0a0b0c ffffffff fffffffe");
        due.fails("feed n 0", Due.ARGUMENT, () -> x.feed(1, 0));
        due.fails("feed n 9", Due.ARGUMENT, () -> x.feed(1, 9));
        due.fails("feed n -1", Due.ARGUMENT, () -> x.feed(1, -1));
        due.fails("feed n least", Due.ARGUMENT, () -> x.feed(1, Integer.MIN_VALUE));
        due.is("size after refused feeds", x.size(), 12);
    }

    private static void feedRoom() {
        WireCodec x = Due.filled(65533);
        due.fails("feed beyond the room", Due.STATE, () -> x.feed(1, 4));
        due.fails("argument ahead of room", Due.ARGUMENT, () -> x.feed(1, 9));
        due.is("size after that", x.size(), 65533);
        due.is("feed into the last room", x.feed(0x010203, 3), 65536);
        due.is("the last byte", x.at(65535), 3);
        due.fails("at(65536)", Due.NO_SUCH, () -> x.at(65536));
        due.fails("feed into a full tape", Due.STATE, () -> x.feed(1, 1));
        due.is("clear a full tape", x.clear(), 65536);
        due.is("feed again", x.feed(7, 1), 1);
    }

    private static void number() {
        WireCodec x = new WireCodec();
        due.is("number(37, 0)", x.number(37, 0), 1);
        due.is("number(37, 1)", x.number(37, 1), 2);
        due.is("number(37, 2)", x.number(37, 2), 4);
        due.is("number(37, 4)", x.number(37, 4), 8);
        due.is("number(37, 8)", x.number(37, 8), 16);
        due.tapeIs("number", x, 0, "25 25 4025 80000025 c000000000000025");
        due.fails("n 3", Due.ARGUMENT, () -> x.number(37, 3));
        due.fails("n 5", Due.ARGUMENT, () -> x.number(37, 5));
        due.fails("n 6", Due.ARGUMENT, () -> x.number(37, 6));
        due.fails("n 7", Due.ARGUMENT, () -> x.number(37, 7));
        due.fails("n 9", Due.ARGUMENT, () -> x.number(37, 9));
        due.fails("n 16", Due.ARGUMENT, () -> x.number(37, 16));
        due.fails("n -1", Due.ARGUMENT, () -> x.number(37, -1));
        due.fails("v -1", Due.ARGUMENT, () -> x.number(-1, 0));
        due.fails("v beyond", Due.ARGUMENT, () -> x.number(Due.GREATEST + 1, 0));
        due.fails("v beyond in 8", Due.ARGUMENT, () -> x.number(Due.GREATEST + 1, 8));
        due.fails("v least", Due.ARGUMENT, () -> x.number(Long.MIN_VALUE, 8));
        due.is("size", x.size(), 16);
    }

    private static void numberEdges() {
        long[] most = {63, 16383, 1073741823, Due.GREATEST};
        int[] sizes = {1, 2, 4, 8};
        for (int k = 0; k < 4; k++) {
            WireCodec x = new WireCodec();
            due.is("the most in " + sizes[k], x.number(most[k], 0), sizes[k]);
            due.is("read it", x.read(0), most[k]);
            x.clear();
            due.is("the most asked in " + sizes[k], x.number(most[k], sizes[k]), sizes[k]);
            due.is("read it", x.read(0), most[k]);
            x.clear();
            if (k < 3) {
                int size = sizes[k];
                long above = most[k] + 1;
                due.is("one more", x.number(above, 0), sizes[k + 1]);
                due.is("read it", x.read(0), above);
                due.fails("one more than fits", Due.ARGUMENT, () -> x.number(above, size));
            }
        }
    }

    private static void numberRoom() {
        WireCodec x = Due.filled(65535);
        due.fails("number beyond the room", Due.STATE, () -> x.number(64, 0));
        due.fails("argument ahead of room", Due.ARGUMENT, () -> x.number(64, 1));
        due.is("number in the last byte", x.number(63, 0), 65536);
        due.fails("number in a full tape", Due.STATE, () -> x.number(0, 0));
    }

    private static void clear() {
        WireCodec x = Due.tape("0401 05 0201 01ff");
        x.set(0, 9);
        due.is("parameters fault", x.parameters(0, false), -1);
        x.clear();
        Due.feed(x, "0401 05");
        due.is("parameters", x.parameters(0, false), 1);
        due.is("parameter(4)", x.parameter(4), 5);
        due.is("clear()", x.clear(), 3);
        due.is("parameter(4)", x.parameter(4), 0);
        due.is("clear() of an empty tape", x.clear(), 0);
        Due.feed(x, "01 1f");
        due.is("frames", x.frames(0, 2), 1);
        due.is("fault", x.fault(false), 2);
        due.is("clear()", x.clear(), 2);
        due.is("size", x.size(), 0);
        due.is("fault(false)", x.fault(false), 0);
        due.is("fault(true)", x.fault(true), -1);
        due.fails("frame(0, 4)", Due.NO_SUCH, () -> x.frame(0, 4));
        Due.feed(x, "40" + Due.bytes(20));
        due.is("head", x.head(0, 0), 1);
        x.clear();
        due.fails("packet(0, 0)", Due.NO_SUCH, () -> x.packet(0, 0));
        due.is("the draft stays", x.put(16), 2);
        due.is("the draft stays", x.at(1), 9);
    }

    private static void sizeAndAt() {
        WireCodec x = Due.tape("00 7f 80 ff");
        due.is("size()", x.size(), 4);
        due.is("at(0)", x.at(0), 0);
        due.is("at(1)", x.at(1), 127);
        due.is("at(2)", x.at(2), 128);
        due.is("at(3)", x.at(3), 255);
        due.fails("at(4)", Due.NO_SUCH, () -> x.at(4));
        due.fails("at(-1)", Due.NO_SUCH, () -> x.at(-1));
        due.fails("at(least)", Due.NO_SUCH, () -> x.at(Integer.MIN_VALUE));
        due.fails("at(most)", Due.NO_SUCH, () -> x.at(Integer.MAX_VALUE));
        x.clear();
        due.fails("at(0) of an empty tape", Due.NO_SUCH, () -> x.at(0));
    }

    private static void read() {
        WireCodec x = Due.tape("c2197c5eff14e88c 9d7f3e7d 7bbd 25 4025 80");
        due.is("read 8", x.read(0), 151288809941952652L);
        due.is("read 4", x.read(8), 494878333);
        due.is("read 2", x.read(12), 15293);
        due.is("read 1", x.read(14), 37);
        due.is("read 37 in 2", x.read(15), 37);
        due.is("read what is not all there", x.read(17), -1);
        due.fails("read(18)", Due.NO_SUCH, () -> x.read(18));
        due.fails("read(-1)", Due.NO_SUCH, () -> x.read(-1));
        due.is("frames", x.frames(14, 2), 0);
        due.is("fault", x.fault(true), 14);
        x.read(0);
        due.is("read changes nothing of what was read", x.fault(true), 14);
        due.is("1 of 2", Due.tape("40").read(0), -1);
        due.is("3 of 4", Due.tape("800000").read(0), -1);
        due.is("4 of 4", Due.tape("80000001").read(0), 1);
        due.is("7 of 8", Due.tape("c0000000000000").read(0), -1);
        due.is("8 of 8", Due.tape("ffffffffffffffff").read(0), Due.GREATEST);
    }
}
