/** Promises 24 and 25: parameters, parameter. */
public final class ParametersTest {
    private static final Due due = new Due("ParametersTest");
    private static final int CUT = 1;
    private static final int KIND = 2;
    private static final int VALUE = 3;
    private static final int LEVEL = 4;
    private static final long[] ABSENT = {-1, 0, -1, 65527, 0, 0, 0, 0, 0, 0, 3, 25, 0, -1, 2, -1, -1};

    public static void main(String[] args) {
        nothing();
        allOfThem();
        numbers();
        bytes();
        unknown();
        cuts();
        order();
        sides();
        arguments();
        latestReading();
        due.end();
    }

    private static void absent(String when, WireCodec x) {
        for (int id = 0; id <= 16; id++) {
            due.is(when + " parameter(" + id + ")", x.parameter(id), ABSENT[id]);
        }
    }

    private static void nothing() {
        WireCodec x = new WireCodec();
        absent("new", x);
        due.is("parameters", x.parameters(0, false), 0);
        absent("nothing", x);
        due.is("fault", x.fault(false), 0);
        due.is("place", x.fault(true), -1);
        due.fails("id -1", Due.NO_SUCH, () -> x.parameter(-1));
        due.fails("id 17", Due.NO_SUCH, () -> x.parameter(17));
        due.fails("id most", Due.NO_SUCH, () -> x.parameter(Integer.MAX_VALUE));
        due.fails("id least", Due.NO_SUCH, () -> x.parameter(Integer.MIN_VALUE));
    }

    private static void allOfThem() {
        WireCodec x = Due.tape("ff" + "00 03 aabbcc" + "01 02 4101" + "02 10" + Due.bytes(16) + "03 02 44b0"
                + "04 01 04" + "05 01 05" + "06 01 06" + "07 01 07" + "08 01 08" + "09 01 09" + "0a 01 14"
                + "0b 02 7fff" + "0c 00" + "0d 29" + Due.bytes(41) + "0e 01 02" + "0f 00" + "10 14" + Due.bytes(20));
        due.is("parameters", x.parameters(1, true), 17);
        due.is("fault", x.fault(false), 0);
        long[] want = {3, 257, 16, 1200, 4, 5, 6, 7, 8, 9, 20, 16383, 1, 41, 2, 0, 20};
        for (int id = 0; id <= 16; id++) {
            due.is("parameter(" + id + ")", x.parameter(id), want[id]);
        }
    }

    private static void right(String hex, int id, long value) {
        WireCodec x = Due.tape(hex);
        due.is(hex + " parameters", x.parameters(0, true), 1);
        due.is(hex + " fault", x.fault(false), 0);
        due.is(hex + " parameter", x.parameter(id), value);
    }

    private static void wrong(String hex, int fault) {
        WireCodec x = Due.tape("04 01 07 4fff 01 aa" + hex);
        due.is(hex + " parameters", x.parameters(0, true), -1);
        due.is(hex + " fault", x.fault(false), fault);
        due.is(hex + " place", x.fault(true), 7);
        absent(hex, x);
    }

    private static void numbers() {
        int[] ids = {1, 3, 5, 6, 7, 8, 9, 10, 11, 14};
        for (int id : ids) {
            String first = String.format("%02x", id);
            wrong(first + "00", VALUE);
            wrong(first + "01 40", VALUE);
            wrong(first + "03 44b000", VALUE);
            wrong(first + "09 c000000000000005 00", VALUE);
            wrong(first + "08 80000005 00000000", VALUE);
            wrong(first + "04 4005 4005", VALUE);
        }
        int[] free = {1, 4, 5, 6, 7};
        for (int id : free) {
            String first = String.format("%02x", id);
            right(first + "01 00", id, 0);
            right(first + "08 ffffffffffffffff", id, Due.GREATEST);
            right(first + "04 80000005", id, 5);
        }
        wrong("03 02 44af", VALUE);
        right("03 02 44b0", 3, 1200);
        right("03 08 ffffffffffffffff", 3, Due.GREATEST);
        for (int id = 8; id <= 9; id++) {
            right("0" + id + "01 00", id, 0);
            right("0" + id + "08 d000000000000000", id, Due.MOST_STREAMS);
            wrong("0" + id + "08 d000000000000001", VALUE);
        }
        right("0a 01 00", 10, 0);
        right("0a 01 14", 10, 20);
        wrong("0a 01 15", VALUE);
        right("0b 02 7fff", 11, 16383);
        right("0b 01 00", 11, 0);
        wrong("0b 04 80004000", VALUE);
        wrong("0e 01 01", VALUE);
        wrong("0e 01 00", VALUE);
        right("0e 01 02", 14, 2);
        right("4004 4001 05", 4, 5);
    }

    private static void bytes() {
        right("0c 00", 12, 1);
        wrong("0c 01 00", VALUE);
        right("02 10" + Due.bytes(16), 2, 16);
        wrong("02 0f" + Due.bytes(15), VALUE);
        wrong("02 11" + Due.bytes(17), VALUE);
        int[] names = {0, 15, 16};
        for (int id : names) {
            String first = String.format("%02x", id);
            right(first + "00", id, 0);
            right(first + "14" + Due.bytes(20), id, 20);
            wrong(first + "15" + Due.bytes(21), VALUE);
        }
        right("0d 29" + Due.bytes(41), 13, 41);
        right("0d 3d" + Due.bytes(61), 13, 61);
        wrong("0d 28" + Due.bytes(40), VALUE);
        wrong("0d 3e" + Due.bytes(62), VALUE);
        wrong("0d 00", VALUE);
    }

    private static void unknown() {
        WireCodec x = Due.tape("11 00 11 00 20 02 aabb ffffffffffffffff 00 4020 01 aa 04 01 05");
        due.is("parameters", x.parameters(0, false), 1);
        due.is("parameter(4)", x.parameter(4), 5);
        wrong("11 02 aa", CUT);
        wrong("11", CUT);
    }

    private static void cuts() {
        wrong("40", CUT);
        wrong("04", CUT);
        wrong("05 40", CUT);
        wrong("05 02 40", CUT);
        wrong("05 ffffffffffffffff 00", CUT);
        wrong("02 10" + Due.bytes(15), CUT);
    }

    private static void order() {
        wrong("04 02 05", CUT);
        wrong("04 01 05", KIND);
        wrong("04 00", KIND);
        WireCodec x = Due.tape("00 00 00 15" + Due.bytes(21));
        due.is("the second time", x.parameters(0, true), -1);
        due.is("kind ahead of value", x.fault(false), KIND);
        due.is("place", x.fault(true), 2);
        due.is("the other side", x.parameters(0, false), -1);
        due.is("the first that is wrong", x.fault(false), LEVEL);
        due.is("place", x.fault(true), 0);
        WireCodec y = Due.tape("02 01 aa");
        due.is("level ahead of value", y.parameters(0, false), -1);
        due.is("level ahead of value", y.fault(false), LEVEL);
        due.is("value", y.parameters(0, true), -1);
        due.is("value", y.fault(false), VALUE);
        WireCodec z = Due.tape("02 02 aa");
        due.is("cut ahead of level", z.parameters(0, false), -1);
        due.is("cut ahead of level", z.fault(false), CUT);
    }

    private static void sides() {
        String[] of = {
            "00 00", "01 01 05", "02 10" + Due.bytes(16), "03 02 44b0", "04 01 05", "05 01 05", "06 01 05", "07 01 05",
            "08 01 05", "09 01 05", "0a 01 05", "0b 01 05", "0c 00", "0d 29" + Due.bytes(41), "0e 01 05", "0f 00", "10 00"
        };
        for (int id = 0; id <= 16; id++) {
            boolean answering = id == 0 || id == 2 || id == 13 || id == 16;
            due.is("answers " + id, Due.tape(of[id]).parameters(0, true), 1);
            WireCodec x = Due.tape(of[id]);
            due.is("does not answer " + id, x.parameters(0, false), answering ? -1 : 1);
            due.is("fault " + id, x.fault(false), answering ? LEVEL : 0);
        }
    }

    private static void arguments() {
        WireCodec x = Due.tape("04 01 05");
        due.is("parameters", x.parameters(0, false), 1);
        due.fails("from -1", Due.ARGUMENT, () -> x.parameters(-1, false));
        due.fails("from 4", Due.ARGUMENT, () -> x.parameters(4, false));
        due.is("what was read stays", x.parameter(4), 5);
        due.is("from the end", x.parameters(3, false), 0);
        due.is("nothing there", x.parameter(4), 0);
    }

    private static void latestReading() {
        WireCodec x = Due.tape("04 01 05 01 40");
        due.is("parameters", x.parameters(0, false), -1);
        absent("wrong", x);
        x.clear();
        Due.feed(x, "04 01 05");
        due.is("parameters", x.parameters(0, false), 1);
        x.frames(0, 2);
        due.is("frames change nothing", x.parameter(4), 5);
        x.head(0, 0);
        due.is("head changes nothing", x.parameter(4), 5);
        x.datagram(0, 0);
        due.is("datagram changes nothing", x.parameter(4), 5);
        x.feed(0, 1);
        due.is("feed changes nothing", x.parameter(4), 5);
        due.is("parameters, wrong", x.parameters(0, false), -1);
        absent("wrong behind right", x);
        x.clear();
        absent("cleared", x);
    }
}
