/** 'Terms', PARAMETERS, and promises 24 and 25: parameters, parameter. */
public final class ParametersTest {
    static final long[] ABSENT = {-1, 0, -1, 65527, 0, 0, 0, 0, 0, 0, 3, 25, 0, -1, 2, -1, -1};

    private static final Due due = new Due("ParametersTest");
    private static final int CUT = 1;
    private static final int KIND = 2;
    private static final int VALUE = 3;
    private static final int LEVEL = 4;
    private static final String F8 = "ffffffffffffffff";
    // A right parameter of each id.
    private static final String[] RIGHT = {
        "00 00", "01 01 05", "02 10" + Due.bytes(16), "03 02 44b0", "04 01 05", "05 01 05", "06 01 05", "07 01 05",
        "08 01 05", "09 01 05", "0a 01 05", "0b 01 05", "0c 00", "0d 29" + Due.bytes(41), "0e 01 05", "0f 00", "10 00"
    };

    public static void main(String[] args) {
        tests(due);
        due.end();
    }

    static void tests(Due d) {
        ids(d);
        values(d);
        d.test("Promise 24, Terms", "0, 2, 13, 16 are of the one that answers alone.", ParametersTest::sides);
        d.test("Promise 25, Terms", "Without them: 3 is 65527, 10 is 3, 11 is 25, 14 is 2, others 0.",
                ParametersTest::without);
        d.test("Promise 24, Terms", "Wrong: 1 CUT", ParametersTest::cuts);
        d.test("Promise 24, Terms", "3 VALUE (of the data)", ParametersTest::wrongValues);
        d.test("Promise 24, Terms", "4 LEVEL: one that is not of this side", ParametersTest::wrongSide);
        d.test("Promise 24, Terms", "2 KIND: a known id for the second time", ParametersTest::secondTime);
        d.test("Promise 24, Terms", "looked at as 1, 2, 4, 3 for each.", ParametersTest::order);
        d.test("Promise 24",
                "Reads the tape from a place on as parameters, of the one that answers or not: how many known ones"
                + " there are", ParametersTest::parameters);
        d.test("Promise 24", "-1 when they are wrong.", ParametersTest::parametersWrong);
        d.test("Promise 24", "Throws IllegalArgumentException when from is not 0 .. size.", ParametersTest::noPlace);
        d.test("Promise 25", "A parameter of the latest reading of parameters (frames, head, datagram behind it change"
                + " nothing of that)", ParametersTest::latest);
        d.test("Promise 25", "if that was right (else, and before any, as if nothing was there)",
                ParametersTest::latestWrong);
        d.test("Promise 25", "the number; of those with bytes, how many, -1 when it is not there",
                ParametersTest::parameter);
        d.test("Promise 25", "of 12: 1 when it is there, 0 else.", ParametersTest::ofTwelve);
        d.test("Promise 25", "Throws NoSuchElementException when id is not 0 .. 16.", ParametersTest::noId);
    }

    private static void ids(Due d) {
        d.test("Promise 24, Terms", "PARAMETERS: each an id (a number) and D(n), up to the end.",
                ParametersTest::idAndData);
        d.test("Promise 24, Terms", "1, 3 .. 11, 14: the data is just one number.", ParametersTest::justOneNumber);
        d.test("Promise 24, Terms", "12: no data.", () -> {
            right("0c 00", 12, 1);
            right("0c 4000", 12, 1);
            wrong("0c 01 00", VALUE);
            wrong("0c 02 0000", VALUE);
        });
        d.test("Promise 24, Terms", "2: 16 bytes.", () -> {
            right("02 10" + Due.bytes(16), 2, 16);
            right("02 4010" + Due.bytes(16), 2, 16);
            wrong("02 0f" + Due.bytes(15), VALUE);
            wrong("02 11" + Due.bytes(17), VALUE);
            wrong("02 00", VALUE);
        });
        d.test("Promise 24, Terms", "0, 15, 16: 0 .. 20 bytes.", ParametersTest::names);
        d.test("Promise 24, Terms", "13: 41 .. 61 bytes.", () -> {
            right("0d 29" + Due.bytes(41), 13, 41);
            right("0d 32" + Due.bytes(50), 13, 50);
            right("0d 3d" + Due.bytes(61), 13, 61);
            wrong("0d 28" + Due.bytes(40), VALUE);
            wrong("0d 3e" + Due.bytes(62), VALUE);
            wrong("0d 00", VALUE);
        });
        d.test("Promise 24, Terms", "Others mean nothing.", ParametersTest::others);
    }

    private static void values(Due d) {
        d.test("Promise 24, Terms", "3 is at least 1200", () -> {
            right("03 02 44b0", 3, 1200);
            wrong("03 02 44af", VALUE);
            wrong("03 01 00", VALUE);
            right("03 08" + F8, 3, Due.GREATEST);
            right("03 04 8000fff8", 3, 65528);
        });
        d.test("Promise 24, Terms", "8 and 9 at most 1152921504606846976", () -> {
            for (int id = 8; id <= 9; id++) {
                right("0" + id + "01 00", id, 0);
                right("0" + id + "08 d000000000000000", id, Due.MOST_STREAMS);
                wrong("0" + id + "08 d000000000000001", VALUE);
                wrong("0" + id + "08" + F8, VALUE);
            }
        });
        d.test("Promise 24, Terms", "10 at most 20", () -> {
            right("0a 01 00", 10, 0);
            right("0a 01 14", 10, 20);
            wrong("0a 01 15", VALUE);
            wrong("0a 08" + F8, VALUE);
        });
        d.test("Promise 24, Terms", "11 below 16384", () -> {
            right("0b 01 00", 11, 0);
            right("0b 02 7fff", 11, 16383);
            wrong("0b 04 80004000", VALUE);
            wrong("0b 08" + F8, VALUE);
        });
        d.test("Promise 24, Terms", "14 at least 2.", () -> {
            wrong("0e 01 00", VALUE);
            wrong("0e 01 01", VALUE);
            right("0e 01 02", 14, 2);
            right("0e 08" + F8, 14, Due.GREATEST);
        });
    }

    private static void absent(String when, WireCodec x) {
        for (int id = 0; id <= 16; id++) {
            due.is(when + " parameter(" + id + ")", x.parameter(id), ABSENT[id]);
        }
    }

    /** One parameter that is right, and none but that. */
    private static void right(String hex, int id, long value) {
        WireCodec x = Due.tape(hex);
        due.is(hex + " parameters", x.parameters(0, true), 1);
        due.is(hex + " fault", x.fault(false), 0);
        due.is(hex + " place", x.fault(true), -1);
        for (int k = 0; k <= 16; k++) {
            due.is(hex + " parameter(" + k + ")", x.parameter(k), k == id ? value : ABSENT[k]);
        }
    }

    /** One that is wrong behind one that is right and one that means nothing. */
    private static void wrong(String hex, boolean answers, int fault) {
        WireCodec x = Due.tape("04 01 07 4fff 01 aa" + hex);
        due.is(hex + " parameters", x.parameters(0, answers), -1);
        due.is(hex + " fault", x.fault(false), fault);
        due.is(hex + " place", x.fault(true), 7);
        absent(hex, x);
    }

    private static void wrong(String hex, int fault) {
        wrong(hex, true, fault);
    }

    private static void idAndData() {
        right("04 01 05", 4, 5);
        right("4004 01 05", 4, 5);
        right("80000004 4001 05", 4, 5);
        right("c000000000000004 c000000000000001 05", 4, 5);
        WireCodec x = Due.tape("04 01 05 05 02 4006");
        due.is("two", x.parameters(0, false), 2);
        due.is("the first", x.parameter(4), 5);
        due.is("the second", x.parameter(5), 6);
        due.is("from the second on", x.parameters(3, false), 1);
        due.is("the first is not there", x.parameter(4), 0);
        WireCodec full = Due.tape("11 8000fffb");
        Due.fill(full, 65536);
        due.is("data up to the end of a full tape", full.parameters(0, false), 0);
        due.is("no fault", full.fault(false), 0);
        WireCodec more = Due.tape("11 8000fffc");
        Due.fill(more, 65536);
        due.is("one byte more", more.parameters(0, false), -1);
        due.is("CUT", more.fault(false), CUT);
    }

    private static void justOneNumber() {
        int[] ids = {1, 3, 4, 5, 6, 7, 8, 9, 10, 11, 14};
        for (int id : ids) {
            String first = Due.hex(id);
            String least = id == 3 ? "c0000000000004b0" : "c000000000000002";
            right(first + "08" + least, id, id == 3 ? 1200 : 2);
            String[] none = {"00", "01 40", "01 80", "01 c0", "02 0505", "02 8000", "03 44b000", "03 800000",
                "04 4005 4005", "04 c0000000", "05 8000000500", "07 c0000000000000", "08 80000005 00000000",
                "09 c000000000000005 00"};
            for (String data : none) {
                WireCodec x = Due.tape(first + data);
                due.is(first + data, x.parameters(0, false), -1);
                due.is(first + data + " fault", x.fault(false), VALUE);
            }
        }
        int[] free = {1, 4, 5, 6, 7};
        for (int id : free) {
            String first = Due.hex(id);
            right(first + "01 00", id, 0);
            right(first + "01 3f", id, 63);
            right(first + "02 7fff", id, 16383);
            right(first + "04 bfffffff", id, 1073741823);
            right(first + "08" + F8, id, Due.GREATEST);
        }
    }

    private static void names() {
        int[] ids = {0, 15, 16};
        for (int id : ids) {
            String first = Due.hex(id);
            right(first + "00", id, 0);
            right(first + "01 ff", id, 1);
            right(first + "14" + Due.bytes(20), id, 20);
            wrong(first + "15" + Due.bytes(21), VALUE);
            wrong(first + "4040" + Due.bytes(64), VALUE);
        }
    }

    private static void others() {
        WireCodec x = Due.tape("11 00 11 00 20 02 aabb" + F8 + "00 4020 01 aa 04 01 05 11 15" + Due.bytes(21));
        due.is("parameters", x.parameters(0, false), 1);
        due.is("fault", x.fault(false), 0);
        due.is("parameter(4)", x.parameter(4), 5);
        WireCodec y = Due.tape("11 00 c000000100000004 01 40 80000011 00");
        due.is("none is known", y.parameters(0, false), 0);
        due.is("fault", y.fault(false), 0);
        absent("none is known", y);
    }

    private static void sides() {
        for (int id = 0; id <= 16; id++) {
            boolean answering = id == 0 || id == 2 || id == 13 || id == 16;
            WireCodec x = Due.tape(RIGHT[id]);
            due.is("answers " + id, x.parameters(0, true), 1);
            due.is("fault", x.fault(false), 0);
            due.is("does not answer " + id, x.parameters(0, false), answering ? -1 : 1);
            due.is("fault", x.fault(false), answering ? LEVEL : 0);
        }
    }

    private static void without() {
        WireCodec x = new WireCodec();
        due.is("nothing on the tape", x.parameters(0, true), 0);
        absent("nothing on the tape", x);
        for (int id = 0; id <= 16; id++) {
            WireCodec y = Due.tape(RIGHT[id]);
            y.parameters(0, true);
            for (int k = 0; k <= 16; k++) {
                if (k != id) {
                    due.is("parameter(" + k + ") beside " + id, y.parameter(k), ABSENT[k]);
                }
            }
        }
    }

    private static void cuts() {
        wrong("40", CUT);
        wrong("c0000000000000", CUT);
        wrong("05", CUT);
        wrong("05 40", CUT);
        wrong("05 01", CUT);
        wrong("05 02 40", CUT);
        wrong("05" + F8 + "00", CUT);
        wrong("05 c000000100000001 00", CUT);
        wrong("02 10" + Due.bytes(15), CUT);
        wrong("00 01", CUT);
        wrong("11", CUT);
        wrong("11 01", CUT);
        wrong("11 02 aa", CUT);
        wrong("4011", CUT);
        right("05 01 00", 5, 0);
    }

    private static void wrongValues() {
        wrong("05 00", VALUE);
        wrong("05 01 40", VALUE);
        wrong("03 02 44af", VALUE);
        wrong("0c 01 00", VALUE);
        wrong("10 15" + Due.bytes(21), VALUE);
        WireCodec x = Due.tape("05 01 40 01");
        due.is("what is behind the data is none of it", x.parameters(0, true), -1);
        due.is("VALUE", x.fault(false), VALUE);
        due.is("at the id", x.fault(true), 0);
    }

    private static void wrongSide() {
        int[] answering = {0, 2, 13, 16};
        for (int id : answering) {
            wrong(RIGHT[id], false, LEVEL);
        }
    }

    private static void secondTime() {
        for (int id = 0; id <= 16; id++) {
            WireCodec x = Due.tape(RIGHT[id] + "11 00" + RIGHT[id]);
            int second = (RIGHT[id] + "1100").replace(" ", "").length() / 2;
            due.is("twice " + id, x.parameters(0, true), -1);
            due.is("KIND", x.fault(false), KIND);
            due.is("the second one", x.fault(true), second);
            absent("twice " + id, x);
        }
        WireCodec y = Due.tape("04 01 05");
        due.is("once", y.parameters(0, false), 1);
        due.is("once more, in another reading", y.parameters(0, false), 1);
        wrong("4004 01 07", KIND);
        due.is("what means nothing may come again", Due.tape("11 00 11 00").parameters(0, false), 0);
    }

    private static void order() {
        // 1 ahead of 2, of 4 and of 3.
        wrong("04 02 05", CUT);
        wrong("04", CUT);
        wrong("02 02 aa", false, CUT);
        wrong("02 11" + Due.bytes(16), CUT);
        // 2 ahead of 3.
        wrong("04 00", KIND);
        wrong("04 01 40", KIND);
        WireCodec x = Due.tape("00 00 00 15" + Due.bytes(21));
        x.parameters(0, true);
        due.is("2 ahead of 3", x.fault(false), KIND);
        due.is("place", x.fault(true), 2);
        // 4 ahead of 3.
        wrong("02 01 aa", false, LEVEL);
        wrong("02 01 aa", true, VALUE);
        wrong("0d 00", false, LEVEL);
        wrong("10 15" + Due.bytes(21), false, LEVEL);
        // For each: one that is wrong ends it, whatever comes behind.
        x.parameters(0, false);
        due.is("the first one's LEVEL ahead of the second one's KIND", x.fault(false), LEVEL);
        due.is("place", x.fault(true), 0);
        WireCodec y = Due.tape("0a 01 15 04");
        y.parameters(0, false);
        due.is("the first one's VALUE ahead of the second one's CUT", y.fault(false), VALUE);
    }

    private static void parameters() {
        WireCodec x = Due.tape("ff" + "00 03 aabbcc" + "01 02 4101" + "02 10" + Due.bytes(16) + "03 02 44b0"
                + "04 01 04" + "05 01 05" + "06 01 06" + "07 01 07" + "08 01 08" + "09 01 09" + "0a 01 14"
                + "0b 02 7fff" + "0c 00" + "0d 29" + Due.bytes(41) + "0e 01 02" + "0f 00" + "10 14" + Due.bytes(20)
                + "11 01 aa");
        due.is("all of them", x.parameters(1, true), 17);
        due.is("fault", x.fault(false), 0);
        due.is("place", x.fault(true), -1);
        long[] want = {3, 257, 16, 1200, 4, 5, 6, 7, 8, 9, 20, 16383, 1, 41, 2, 0, 20};
        for (int id = 0; id <= 16; id++) {
            due.is("parameter(" + id + ")", x.parameter(id), want[id]);
        }
        WireCodec y = Due.tape("04 01 05 11 00");
        due.is("known ones", y.parameters(0, false), 1);
        due.is("none is known", y.parameters(3, false), 0);
        due.is("from the end", y.parameters(5, false), 0);
        due.is("no fault", y.fault(false), 0);
        due.is("an empty tape", new WireCodec().parameters(0, true), 0);
    }

    private static void parametersWrong() {
        WireCodec x = Due.tape("04 01 05 05 01 40");
        due.is("the second one", x.parameters(0, false), -1);
        due.is("VALUE", x.fault(false), VALUE);
        due.is("the first of all", x.parameters(3, false), -1);
        due.is("the last byte", x.parameters(5, false), -1);
        due.is("CUT", x.fault(false), CUT);
    }

    private static void noPlace() {
        int[] none = {-1, 65537, Integer.MIN_VALUE, Integer.MAX_VALUE};
        for (int from : none) {
            due.refused("parameters(" + from + ", false)", Due.ARGUMENT, x -> x.parameters(from, false));
            due.refused("parameters(" + from + ", true)", Due.ARGUMENT, x -> x.parameters(from, true));
        }
        due.refused("parameters(size + 1, true)", Due.ARGUMENT, x -> x.parameters(x.size() + 1, true));
        due.refused("behind a full tape", Due.ARGUMENT, () -> Pasts.framesRead(65536), x -> x.parameters(65537, true));
        due.is("from the size", Due.filled(65536).parameters(65536, true), 0);
    }

    private static void latest() {
        WireCodec x = Due.tape("04 01 05");
        due.is("parameters", x.parameters(0, false), 1);
        x.frames(0, 2);
        due.is("frames change nothing", x.parameter(4), 5);
        x.head(0, 0);
        due.is("head changes nothing", x.parameter(4), 5);
        x.datagram(0, 0);
        due.is("datagram changes nothing", x.parameter(4), 5);
        x.feed(0x050106, 3);
        x.put(1);
        due.is("writing changes nothing", x.parameter(4), 5);
        due.is("parameters", x.parameters(3, false), -1);
        x.clear();
        Due.feed(x, "04 01 05 05 01 06");
        due.is("parameters", x.parameters(0, false), 2);
        due.is("parameters", x.parameters(3, false), 1);
        due.is("of the latest alone", x.parameter(4), 0);
        due.is("of the latest", x.parameter(5), 6);
        due.is("parameters of nothing", x.parameters(6, false), 0);
        absent("of the latest, which had none", x);
    }

    private static void latestWrong() {
        WireCodec x = new WireCodec();
        absent("before any", x);
        Due.feed(x, "04 01 05 0c 00");
        due.is("right", x.parameters(0, false), 2);
        x.feed(0x05, 1);
        due.is("wrong behind right", x.parameters(0, false), -1);
        absent("wrong behind right", x);
        x.frames(0, 2);
        absent("wrong behind right", x);
        x.feed(0x0107, 2);
        due.is("right again", x.parameters(0, false), 3);
        due.is("it is there", x.parameter(4), 5);
        due.is("it is there", x.parameter(5), 7);
    }

    private static void parameter() {
        long[] want = {0, 5, 16, 1200, 5, 5, 5, 5, 5, 5, 5, 5, 1, 41, 5, 0, 0};
        for (int id = 0; id <= 16; id++) {
            right(RIGHT[id], id, want[id]);
        }
        int[] ofBytes = {0, 2, 13, 15, 16};
        for (int id : ofBytes) {
            due.is("bytes that are not there", new WireCodec().parameter(id), -1);
        }
        right("0f 00", 15, 0);
        right("0f 14" + Due.bytes(20), 15, 20);
        right("04 08" + F8, 4, Due.GREATEST);
    }

    private static void ofTwelve() {
        WireCodec x = Due.tape("0c 00 04 01 05");
        due.is("before any", x.parameter(12), 0);
        x.parameters(0, false);
        due.is("it is there", x.parameter(12), 1);
        x.parameters(2, false);
        due.is("it is not there", x.parameter(12), 0);
    }

    private static void noId() {
        int[] none = {-1, 17, 18, 256, Integer.MIN_VALUE, Integer.MAX_VALUE};
        for (int id : none) {
            due.refused("parameter(" + id + ")", Due.NO_SUCH, x -> x.parameter(id));
        }
        due.is("the first", new WireCodec().parameter(0), -1);
        due.is("the last", new WireCodec().parameter(16), -1);
    }
}
