import java.util.List;

/** Promises 1 to 5: a new object, and the text. */
final class TextTests {
    private static final String FULL = "T" + "a1".repeat(58) + "t01";

    private TextTests() { }

    static void addTo(List<Check.Test> tests) {
        tests.add(new Check.Test("promise 1: a new object is empty", TextTests::newObject));
        tests.add(new Check.Test("promise 2: append answers the length", TextTests::append));
        tests.add(new Check.Test("promise 2: append refuses", TextTests::appendRefuses));
        tests.add(new Check.Test("promise 3: clearText", TextTests::clearText));
        tests.add(new Check.Test("promise 4: texts that are mines", TextTests::mines));
        tests.add(new Check.Test("promise 4: error positions", TextTests::errorPositions));
        tests.add(new Check.Test("promise 4: every number's edges", TextTests::numberEdges));
        tests.add(new Check.Test("promise 5: load does the commands", TextTests::load));
        tests.add(new Check.Test("promise 5: load counts what is left out", TextTests::loadLeavesOut));
        tests.add(new Check.Test("promise 5: load starts anew", TextTests::loadStartsAnew));
        tests.add(new Check.Test("promise 5: load refuses", TextTests::loadRefuses));
    }

    private static void newObject() {
        TunnelLamps x = new TunnelLamps();
        for (int what = 0; what <= 12; what++) {
            Check.equal("about " + what, 0, x.about(what));
        }
        Check.equal("lad's gallery", 0, x.lad(0));
        Check.equal("lad's cell", 0, x.lad(1));
        Check.equal("lad's lamp", TunnelLamps.NONE, x.lad(2));
        Check.equal("lad's steps", 0, x.lad(3));
        Check.equal("error position", 0, x.errorPosition());
        Check.refused("undo", x, Check.NOT_POSSIBLE, x::undo);
        Check.refused("restore 0", x, Check.NOT_POSSIBLE, () -> x.restore(0));
        Check.refused("restore 1", x, Check.NOT_POSSIBLE, () -> x.restore(1));
        Check.equal("setting 0", 4, x.set(0, 4));
        Check.equal("setting 1", 0, x.set(1, 0));
        Check.equal("NONE", -1, TunnelLamps.NONE);
    }

    private static void append() {
        TunnelLamps x = new TunnelLamps();
        Check.equal("first", 1, x.append('T'));
        Check.equal("character 0", 2, x.append(0));
        Check.equal("character 255", 3, x.append(255));
        Check.equal("error", 1, x.errorPosition());
    }

    private static void appendRefuses() {
        TunnelLamps x = Check.withText("T");
        Check.refused("-1", x, Check.OUT_OF_RANGE, () -> x.append(-1));
        Check.refused("256", x, Check.OUT_OF_RANGE, () -> x.append(256));
        Check.refused("256 + 'T'", x, Check.OUT_OF_RANGE, () -> x.append(256 + 'T'));
        Check.refused("least", x, Check.OUT_OF_RANGE, () -> x.append(Integer.MIN_VALUE));
        Check.equal("length is kept", 2, x.append('a'));
        Check.write(x, FULL);
        Check.refused("character 121", x, Check.NOT_POSSIBLE, () -> x.append('a'));
        Check.refused("out of range comes first", x, Check.OUT_OF_RANGE, () -> x.append(256));
        Check.equal("length is kept", 120, x.clearText());
    }

    private static void clearText() {
        TunnelLamps x = Check.withText("Tt05");
        Check.equal("previous length", 4, x.clearText());
        Check.equal("empty", 0, x.clearText());
        Check.equal("appends from the start", 1, x.append('T'));
        Check.equal("a mine", TunnelLamps.NONE, x.errorPosition());
    }

    private static void error(String text, int due) {
        Check.equal("error position of " + text, due, Check.withText(text).errorPosition());
    }

    private static void mines() {
        for (String text : new String[] {"T", "Tg01", "Tg60", "Tm05", "Tm21", "Tl059999", "Tl200100", "Ts000",
                "Ts999", "Th7259", "Th0000", "Tf799", "Tf001", "Ta0", "Ta1", "Tt01", "Tt60", FULL,
                "Tg08g03l006340l102109m04m15m02s150t03h0007f060t04h1102a1t20"}) {
            error(text, TunnelLamps.NONE);
        }
    }

    private static void errorPositions() {
        error("", 0);
        error("t", 0);
        error("g01", 0);
        error("TT", 1);
        error("T ", 1);
        error("T0", 1);
        error("Tg", 2);
        error("Tg0", 3);
        error("Tg01m", 5);
        error("Tg01m05x", 7);
        error("Tg01 m05", 4);
        error("Tl0593", 6);
        error("Tl05939", 7);
        error("Ts00a", 4);
        error("Tg0x", 3);
        error("Tg0/", 3);
        error("Tg0:", 3);
        error("Tu", 1);
        error("Td0", 1);
        error("T" + (char) 255, 1);
        error("Tg" + (char) 178, 2);
    }

    /** Tries all digits at the place behind the text; those that are not allowed are an error there. */
    private static void digits(String before, String allowed) {
        for (char digit = '0'; digit <= '9'; digit++) {
            TunnelLamps x = Check.withText(before + digit);
            boolean isError = x.errorPosition() == before.length();
            if (isError == allowed.indexOf(digit) >= 0) {
                throw new AssertionError("the digit " + digit + " behind " + before);
            }
        }
    }

    private static void numberEdges() {
        String all = "0123456789";
        digits("Tg", "0123456");
        digits("Tg0", "123456789");
        digits("Tg5", all);
        digits("Tg6", "0");
        digits("Tm", "012");
        digits("Tm0", "12345");
        digits("Tl", "012");
        digits("Tl1", "012345");
        digits("Tl10", all);
        digits("Tl15", all);
        digits("Tl100", "123456789");
        digits("Tl1001", all);
        digits("Tl10010", all);
        digits("Ts", all);
        digits("Ts0", all);
        digits("Ts00", all);
        digits("Th", "01234567");
        digits("Th7", "012");
        digits("Th70", "012345");
        digits("Th700", all);
        digits("Tf", "01234567");
        digits("Tf0", all);
        digits("Tf00", "123456789");
        digits("Tf01", all);
        digits("Ta", "01");
        digits("Tt", "0123456");
        digits("Tt0", "123456789");
        digits("Tt6", "0");
    }

    private static void load() {
        TunnelLamps x = Check.withText("Tg08g03m14l006340l102109s150h0102f106a1t02");
        Check.equal("left out", 0, x.load());
        TunnelLamps y = new TunnelLamps();
        y.gallery(8);
        y.gallery(3);
        y.miner(1, 4);
        y.lamp(0, 6, 3, 40);
        y.lamp(1, 2, 1, 9);
        y.store(150);
        y.hang(0, 1, 2);
        y.fill(1, 6);
        y.set(1, 1);
        y.hours(2);
        x.clearText();
        Check.same("as by calls", Check.look(y), Check.look(x));
    }

    private static void loadLeavesOut() {
        Check.equal("no gallery yet", 4, Check.withText("Tm01l000100h0000f001").load());
        Check.equal("a fourth gallery", 1, Check.withText("Tg01g01g01g01").load());
        Check.equal("a cell that is not dug", 1, Check.withText("Tg05l005100").load());
        TunnelLamps x = Check.withText("T" + "s999".repeat(12));
        Check.equal("a full store", 2, x.load());
        Check.equal("oil", 9990, x.about(4));
        Check.equal("seven miners", 1, Check.withText("Tg05" + "m01".repeat(7)).load());
        Check.equal("nine lamps", 1, Check.withText("Tg05" + "l000100".repeat(9)).load());
        Check.equal("seven orders", 2, Check.withText("Tg05l000100" + "h0000f001".repeat(4)).load());
    }

    private static void loadStartsAnew() {
        TunnelLamps x = Check.withText("Tg05");
        x.gallery(9);
        x.gallery(9);
        x.set(0, 9);
        x.set(1, 1);
        x.store(77);
        x.save(0);
        x.save(1);
        Check.equal("left out", 0, x.load());
        Check.equal("galleries", 1, x.about(0));
        Check.equal("depth", 5, x.galleryOf(0, 0));
        Check.equal("store", 0, x.about(4));
        Check.equal("error position", TunnelLamps.NONE, x.errorPosition());
        Check.refused("undo", x, Check.NOT_POSSIBLE, x::undo);
        Check.refused("restore 0", x, Check.NOT_POSSIBLE, () -> x.restore(0));
        Check.refused("restore 1", x, Check.NOT_POSSIBLE, () -> x.restore(1));
        Check.equal("setting 0", 4, x.set(0, 0));
        Check.equal("setting 1", 0, x.set(1, 0));
        Check.equal("again", 0, x.load());
        Check.equal("text is kept", 4, x.clearText());
    }

    private static void loadRefuses() {
        TunnelLamps x = Check.withText("Tg0");
        x.gallery(9);
        x.save(1);
        Check.refused("cut off", x, Check.NOT_POSSIBLE, x::load);
        Check.equal("text is kept", 3, x.clearText());
        Check.refused("empty", x, Check.NOT_POSSIBLE, x::load);
        Check.equal("slot is kept", 0, x.restore(1));
        x.store(1);
        Check.refused("empty", x, Check.NOT_POSSIBLE, x::load);
        Check.equal("remembered state is kept", 0, x.undo());
    }
}
