import java.util.List;

/** Edges of the text and its commands, and of promises 1 to 5. */
final class EdgeTextTests {
    private static final int NONE = TunnelLamps.NONE;
    /** As long as a text may be: a letter and 59 commands of two signs, less one of these for one of three. */
    private static final String LONGEST = "T" + "a1".repeat(58) + "t60";
    private static final String EVERY_COMMAND = "Tg08g12m14l006340s150h0107f006a1t02";
    private static final String FIRST_NOT_ALLOWED = "The error position is the index of the first character that these"
            + " rules do not allow at its place";

    private EdgeTextTests() { }

    static void addTo(List<Check.Test> tests) {
        addText(new Sentences(tests, "TEXT"));
        addPromises(tests);
    }

    private static void addText(Sentences text) {
        text.test("The object has a text buffer of at most 120 characters.", EdgeTextTests::mostCharacters);
        text.test("A mine as a text is the letter T, and then any number of commands", EdgeTextTests::letterAndCommands);
        text.test("a gallery is a digit (0 to 2)", () -> {
            for (String before : new String[] {"Tm", "Tl", "Th3"}) {
                digits(before, "012");
            }
        });
        text.test("a cell two digits (00 to 59)", () -> {
            for (String before : new String[] {"Tl1", "Th31"}) {
                digits(before, "012345");
                digits(before + "0", "0123456789");
                digits(before + "5", "0123456789");
            }
        });
        text.test("a lamp a digit (0 to 7)", () -> {
            digits("Th", "01234567");
            digits("Tf", "01234567");
        });
        text.test("g and two digits for a depth (01 to 60): gallery()", EdgeTextTests::commandG);
        text.test("m, a gallery, and a digit (1 to 5): miner()", EdgeTextTests::commandM);
        text.test("l, a gallery, a cell, a digit for a reach (1 to 9), and two for oil (00 to 99): lamp()",
                EdgeTextTests::commandL);
        text.test("s and three digits (000 to 999): store()", EdgeTextTests::commandS);
        text.test("h, a lamp, a gallery, and a cell: hang()", EdgeTextTests::commandH);
        text.test("f, a lamp, and two digits (01 to 99): fill()", EdgeTextTests::commandF);
        text.test("a and a digit (0 or 1): set() of setting 1", EdgeTextTests::commandA);
        text.test("t and two digits (01 to 60): hours().", EdgeTextTests::commandT);
        text.test("Commands that would throw an exception are left out.", EdgeTextTests::leftOut);
        text.test("There are no blanks.", EdgeTextTests::noBlanks);
        text.test("The text is read from left to right.", EdgeTextTests::leftToRight);
        text.test(FIRST_NOT_ALLOWED, "every character at every place", EdgeTextTests::firstNotAllowed);
        text.test(FIRST_NOT_ALLOWED, "of two the first, at the first and at the last place",
                EdgeTextTests::firstOfSeveral);
        text.test("a digit is not allowed if no number that is allowed begins with it and those before it",
                EdgeTextTests::beginsNoNumber);
        text.test("if the text ends too soon, it is the length of the text.", EdgeTextTests::endsTooSoon);
    }

    private static void addPromises(List<Check.Test> tests) {
        Sentences made = new Sentences(tests, "Promise 1");
        made.test("Creates a mine without galleries; the store is empty.", EdgeTextTests::newObject);
        Sentences append = new Sentences(tests, "Promise 2");
        append.test("Appends a character to the text buffer.", EdgeTextTests::appendsThatCharacter);
        append.test("c: character code, 0 to 255", EdgeTextTests::characterCodes);
        append.test("Returns the new length of the text.", EdgeTextTests::newLength);
        append.test("Throws IllegalArgumentException if c is out of range", EdgeTextTests::codeOutOfRange);
        append.test("Throws IllegalStateException if the text already has 120 characters",
                EdgeTextTests::textAlreadyFull);
        Sentences clear = new Sentences(tests, "Promise 3");
        clear.test("Empties the text buffer.", EdgeTextTests::empties);
        clear.test("Returns the previous length of the text.", EdgeTextTests::previousLength);
        Sentences error = new Sentences(tests, "Promise 4");
        error.test("Checks the text.", () -> Twins.leftAlone("errorPosition", Twins::busy, TunnelLamps::errorPosition));
        error.test("Returns the error position of the text; NONE if it is a mine.", EdgeTextTests::errorOrNone);
        Sentences load = new Sentences(tests, "Promise 5");
        load.test("Makes everything as in a new object, and then does the commands of the text.",
                EdgeTextTests::asInNewObject);
        load.test("Behind it no state is remembered, and both save slots are empty.", EdgeTextTests::nothingRemembered);
        load.test("Keeps the text, also if it throws the exception.", EdgeTextTests::keepsText);
        load.test("Returns the number of commands that are left out.", EdgeTextTests::howManyLeftOut);
        load.test("Throws IllegalStateException if the text is not a mine", EdgeTextTests::notMine);
    }

    private static void error(String text, int due) {
        Check.equal("error position of " + text, due, Check.withText(text).errorPosition());
    }

    private static TunnelLamps loaded(String text, int leftOut) {
        TunnelLamps x = Check.withText(text);
        Check.equal("left out of " + text, leftOut, x.load());
        return x;
    }

    /** Of all digits behind the text just these are allowed; the others are the error. */
    private static void digits(String before, String allowed) {
        for (char digit = '0'; digit <= '9'; digit++) {
            int found = Check.withText(before + digit).errorPosition();
            boolean isError = found == before.length();
            Check.equal("the digit " + digit + " behind " + before, allowed.indexOf(digit) < 0 ? 1 : 0, isError ? 1 : 0);
        }
    }

    private static void mostCharacters() {
        TunnelLamps x = Check.withText(LONGEST);
        Check.equal("120 characters are a mine", NONE, x.errorPosition());
        Twins.refused("one more", Check.NOT_POSSIBLE, y -> {
            Twins.busy(y);
            Check.write(y, LONGEST);
        }, y -> y.append('a'));
        Check.equal("all of them are read", 0, x.load());
        Check.equal("the last one too", 60, x.about(3));
        Check.equal("length", 120, x.clearText());
        Check.equal("empty again", 1, x.append('T'));
    }

    private static void letterAndCommands() {
        error("", 0);
        error("t", 0);
        error("g01", 0);
        error("T", NONE);
        Check.equal("no command", 0, loaded("T", 0).about(0));
        error("Ta1", NONE);
        error("T" + "a1".repeat(59), NONE);
        error("TT", 1);
        error("Ta1T", 3);
        Check.equal("39 commands", 39, loaded("T" + "t01".repeat(39), 0).about(3));
    }

    private static void commandG() {
        digits("Tg", "0123456");
        digits("Tg0", "123456789");
        digits("Tg1", "0123456789");
        digits("Tg5", "0123456789");
        digits("Tg6", "0");
        TunnelLamps x = loaded("Tg01g60g59", 0);
        Check.equal("01", 1, x.galleryOf(0, 0));
        Check.equal("60", 60, x.galleryOf(1, 0));
        Check.equal("59", 59, x.galleryOf(2, 0));
    }

    private static void commandM() {
        digits("Tm0", "12345");
        digits("Tm2", "12345");
        TunnelLamps x = loaded("Tg09g09g09m01m25", 0);
        Check.equal("gallery 0", 0, x.minerOf(0, 0));
        Check.equal("pace 1", 1, x.minerOf(0, 1));
        Check.equal("gallery 2", 2, x.minerOf(1, 0));
        Check.equal("pace 5", 5, x.minerOf(1, 1));
    }

    private static void commandL() {
        digits("Tl259", "123456789");
        digits("Tl2599", "0123456789");
        digits("Tl25999", "0123456789");
        digits("Tl25990", "0123456789");
        TunnelLamps x = loaded("Tg60g09g60l000100l259999", 0);
        int[][] due = {{1, 0, 0, 0}, {9, 99, 2, 59}};
        for (int l = 0; l < 2; l++) {
            for (int what = 0; what < 4; what++) {
                Check.equal("lamp " + l + ", " + what, due[l][what], x.lampOf(l, what));
            }
        }
    }

    private static void commandS() {
        digits("Ts", "0123456789");
        digits("Ts9", "0123456789");
        digits("Ts00", "0123456789");
        digits("Ts99", "0123456789");
        Check.equal("000", 0, loaded("Ts000", 0).about(4));
        Check.equal("999", 999, loaded("Ts999", 0).about(4));
        Check.equal("123", 123, loaded("Ts123", 0).about(4));
    }

    private static void commandH() {
        error("Th7259", NONE);
        error("Th0000", NONE);
        TunnelLamps x = loaded("Tg01g01g60" + "l000100".repeat(8) + "h0000h7259", 0);
        int[][] due = {{0, 0, 0, 0}, {0, 7, 2, 59}};
        for (int k = 0; k < 2; k++) {
            for (int what = 0; what < 4; what++) {
                Check.equal("order " + k + ", " + what, due[k][what], x.orderOf(k, what));
            }
        }
    }

    private static void commandF() {
        digits("Tf7", "0123456789");
        digits("Tf70", "123456789");
        digits("Tf79", "0123456789");
        TunnelLamps x = loaded("Tg01" + "l000100".repeat(8) + "f001f799", 0);
        int[][] due = {{1, 0, 1, NONE}, {1, 7, 99, NONE}};
        for (int k = 0; k < 2; k++) {
            for (int what = 0; what < 4; what++) {
                Check.equal("order " + k + ", " + what, due[k][what], x.orderOf(k, what));
            }
        }
    }

    private static void commandA() {
        digits("Ta", "01");
        Check.equal("1", 1, loaded("Ta1", 0).set(1, 0));
        Check.equal("0", 0, loaded("Ta1a0", 0).set(1, 0));
        Check.equal("it is not setting 0", 4, loaded("Ta1", 0).set(0, 0));
    }

    private static void commandT() {
        digits("Tt", "0123456");
        digits("Tt0", "123456789");
        digits("Tt5", "0123456789");
        digits("Tt6", "0");
        Check.equal("01", 1, loaded("Tt01", 0).about(3));
        Check.equal("60", 60, loaded("Tt60", 0).about(3));
    }

    private static void leftOut() {
        Check.equal("a miner without a gallery", 0, loaded("Tm01g05", 1).about(1));
        Check.equal("a miner in a gallery that is not there", 0, loaded("Tg05m11", 1).about(1));
        Check.equal("a fourth gallery", 3, loaded("Tg01g02g03g04", 1).about(0));
        Check.equal("a seventh miner", 6, loaded("Tg05" + "m05".repeat(7), 1).about(1));
        Check.equal("a lamp in the face", 1, loaded("Tg05l005100l004100", 1).about(2));
        Check.equal("a ninth lamp", 8, loaded("Tg05" + "l000100".repeat(9), 1).about(2));
        Check.equal("more than a full store", 9990, loaded("T" + "s999".repeat(11), 1).about(4));
        Check.equal("a full store", 9999, loaded("T" + "s999".repeat(10) + "s010s009", 1).about(4));
        Check.equal("no such lamp", 0, loaded("Tg05l000100h1000f101", 2).about(10));
        Check.equal("into the face", 1, loaded("Tg05l000100h0005h0004", 1).about(10));
        Check.equal("a seventh order", 6, loaded("Tg05l000100" + "f001".repeat(7) + "h0000", 2).about(10));
        Check.equal("those behind it are done", 60, loaded("Tm01t60", 1).about(3));
    }

    private static void noBlanks() {
        error(" T", 0);
        error("T ", 1);
        error("Tg 8", 2);
        error("Tg08 m01", 4);
        error("Tg08\n", 4);
        error("Tg08" + (char) 0, 4);
        error("Tg08" + (char) 160, 4);
    }

    private static void leftToRight() {
        Check.equal("the miner comes too soon", 0, loaded("Tm01g05", 1).about(1));
        Check.equal("the miner comes behind the gallery", 1, loaded("Tg05m01", 0).about(1));
        Check.equal("the hours come before the filling", 48, loaded("Tg05l004150m03t02s009f009", 0).lampOf(0, 1));
        TunnelLamps x = loaded("Tg03g02", 0);
        Check.equal("the first gallery", 3, x.galleryOf(0, 0));
    }

    /** Puts each of the 256 characters at each place of a text that has every command. */
    private static void firstNotAllowed() {
        for (int place = 0; place <= EVERY_COMMAND.length(); place++) {
            String behind = EVERY_COMMAND.substring(Math.min(place + 1, EVERY_COMMAND.length()));
            for (int c = 0; c < 256; c++) {
                String text = EVERY_COMMAND.substring(0, place) + (char) c + behind;
                PlainMine plain = new PlainMine();
                text.chars().forEach(plain::append);
                error(text, plain.errorPosition());
            }
        }
    }

    private static void firstOfSeveral() {
        error("xx", 0);
        error("Txx", 1);
        error("Tg0xx", 3);
        error("Tg99m99", 2);
        error("Tg01m99", 5);
        String most = "T" + "a1".repeat(59);
        error(most + "x", 119);
        error(most + "a", 120);
        error(most + "T", 119);
        error("x" + most, 0);
        error("T" + "a1".repeat(58) + "t61", 119);
        error("T" + "a1".repeat(58) + "tx0", 118);
    }

    private static void beginsNoNumber() {
        error("Tg7", 2);
        error("Tg61", 3);
        error("Tg00", 3);
        error("Tt7", 2);
        error("Tt61", 3);
        error("Tt00", 3);
        error("Tl06", 3);
        error("Th006", 4);
        error("Tf000", 4);
        error("Tl0000", 5);
        error("Tm3", 2);
        error("Tm00", 3);
        error("Tm06", 3);
        error("Tf8", 2);
        error("Ta2", 2);
    }

    /** Cuts a text that has every command behind each of its characters. */
    private static void endsTooSoon() {
        error("", 0);
        for (int length = 1; length <= EVERY_COMMAND.length(); length++) {
            String text = EVERY_COMMAND.substring(0, length);
            boolean isWhole = length == EVERY_COMMAND.length()
                    || Character.isLetter(EVERY_COMMAND.charAt(length));
            error(text, isWhole ? NONE : length);
        }
        error("T" + "a1".repeat(59) + "g", 120);
        error("T" + "a1".repeat(58) + "s9", 119);
    }

    private static void newObject() {
        TunnelLamps x = new TunnelLamps();
        Check.equal("galleries", 0, x.about(0));
        Check.equal("the store", 0, x.about(4));
        for (int what = 0; what <= 12; what++) {
            Check.equal("about " + what, 0, x.about(what));
        }
        Check.equal("the lad's lamp", NONE, x.lad(2));
        Check.equal("the text", 0, x.clearText());
        Check.refused("nothing is remembered", x, Check.NOT_POSSIBLE, x::undo);
        Check.refused("slot 0", x, Check.NOT_POSSIBLE, () -> x.restore(0));
        Check.refused("slot 1", x, Check.NOT_POSSIBLE, () -> x.restore(1));
        TunnelLamps y = new TunnelLamps();
        y.gallery(9);
        y.store(9);
        Check.equal("each object has a state of its own", 0, new TunnelLamps().about(0) + x.about(4));
    }

    private static void appendsThatCharacter() {
        TunnelLamps x = new TunnelLamps();
        x.append('T');
        Check.equal("a mine", NONE, x.errorPosition());
        x.append('t');
        x.append('0');
        x.append('7');
        x.load();
        Check.equal("behind the others", 7, x.about(3));
        for (int c = 0; c < 256; c++) {
            TunnelLamps y = new TunnelLamps();
            y.append(c);
            Check.equal("the character " + c, c == 'T' ? NONE : 0, y.errorPosition());
        }
    }

    private static void characterCodes() {
        TunnelLamps x = new TunnelLamps();
        Check.equal("0", 1, x.append(0));
        Check.equal("255", 2, x.append(255));
        Twins.refused("-1", Check.OUT_OF_RANGE, Twins::busy, y -> y.append(-1));
        Twins.refused("256", Check.OUT_OF_RANGE, Twins::busy, y -> y.append(256));
    }

    private static void newLength() {
        TunnelLamps x = new TunnelLamps();
        for (int length = 1; length <= 120; length++) {
            Check.equal("length", length, x.append('a'));
        }
        x.clearText();
        Check.equal("from the start", 1, x.append('a'));
    }

    private static void codeOutOfRange() {
        Twins.refusedOutside("c", 0, 255, Check.OUT_OF_RANGE, Twins::busy, TunnelLamps::append);
        TunnelLamps x = new TunnelLamps();
        for (int wrapped : new int[] {'T' + 256, 'T' + 65536, 'T' - 256, 'T' - 65536}) {
            Check.refused("T with other high bits", x, Check.OUT_OF_RANGE, () -> x.append(wrapped));
        }
        Check.equal("no character", 0, x.clearText());
    }

    private static void textAlreadyFull() {
        TunnelLamps x = Check.withText(LONGEST.substring(0, 119));
        Check.equal("the last one", 120, x.append('0'));
        Check.refused("one more", x, Check.NOT_POSSIBLE, () -> x.append('0'));
        Check.refused("and again", x, Check.NOT_POSSIBLE, () -> x.append(255));
        x.load();
        Check.refused("a text that is loaded is as full", x, Check.NOT_POSSIBLE, () -> x.append('0'));
    }

    private static void empties() {
        TunnelLamps x = Check.withText(LONGEST);
        x.clearText();
        Check.equal("no text", 0, x.errorPosition());
        Check.write(x, "T");
        Check.equal("nothing of the old text", NONE, x.errorPosition());
        x.append('t');
        Check.equal("nothing of the old text", 2, x.errorPosition());
    }

    private static void previousLength() {
        TunnelLamps x = new TunnelLamps();
        Check.equal("empty", 0, x.clearText());
        x.append(0);
        Check.equal("one", 1, x.clearText());
        Check.equal("empty again", 0, x.clearText());
        Check.write(x, LONGEST);
        Check.equal("full", 120, x.clearText());
    }

    private static void errorOrNone() {
        error("", 0);
        error("T", NONE);
        error("Tx", 1);
        error(LONGEST, NONE);
        error(LONGEST.substring(0, 119), 119);
        error("Tm01h7259g60", NONE);
    }

    private static void asInNewObject() {
        TunnelLamps x = Twins.made(Twins::busyWithLamp);
        Check.write(x, EVERY_COMMAND);
        TunnelLamps y = Check.withText(EVERY_COMMAND);
        Check.equal("left out", y.load(), x.load());
        Check.same("as of a new object", Check.look(y), Check.look(x));
        Check.equal("setting 0", 4, x.set(0, 0));
        Check.equal("setting 1", 1, x.set(1, 0));
        Check.write(x, "T");
        x.load();
        Check.same("no command", Check.look(Check.withText("T")), Check.look(x));
        Check.equal("setting 0", 4, x.set(0, 0));
        Check.equal("setting 1", 0, x.set(1, 0));
    }

    private static void nothingRemembered() {
        TunnelLamps x = Twins.made(Twins::busyWithLamp);
        Check.write(x, EVERY_COMMAND);
        x.load();
        Check.refused("undo", x, Check.NOT_POSSIBLE, x::undo);
        Check.refused("slot 0", x, Check.NOT_POSSIBLE, () -> x.restore(0));
        Check.refused("slot 1", x, Check.NOT_POSSIBLE, () -> x.restore(1));
        x.store(5);
        Check.equal("one action since", 0, x.undo());
        x.save(1);
        Check.equal("saved since", 2, x.restore(1));
        Check.refused("slot 0 still", x, Check.NOT_POSSIBLE, () -> x.restore(0));
    }

    private static void keepsText() {
        TunnelLamps x = loaded(EVERY_COMMAND, 0);
        Check.equal("a mine still", NONE, x.errorPosition());
        Check.equal("once more", 0, x.load());
        Check.equal("length", EVERY_COMMAND.length(), x.clearText());
        Check.write(x, "Tt0");
        Check.refused("not a mine", x, Check.NOT_POSSIBLE, x::load);
        x.append('9');
        x.load();
        Check.equal("goes on behind it", 9, x.about(3));
    }

    private static void howManyLeftOut() {
        loaded("T", 0);
        loaded(EVERY_COMMAND, 0);
        loaded("Tm01", 1);
        loaded("T" + "m01".repeat(39), 39);
        loaded("T" + "g01".repeat(39), 36);
        loaded("T" + "f799".repeat(29) + "t01", 29);
        loaded("Tg01m01g01m11g01m21g01m01", 1);
    }

    private static void notMine() {
        for (String text : new String[] {"", "t", "x", "TT", "Tg", "Tg0", "Tg61", "Tg08 ", LONGEST.substring(0, 119)}) {
            Twins.refused("load of " + text, Check.NOT_POSSIBLE, x -> {
                Twins.busy(x);
                Check.write(x, text);
            }, TunnelLamps::load);
        }
        Twins.refused("load with all that may be remembered", Check.NOT_POSSIBLE, x -> {
            Twins.busyWithLamp(x);
            x.append('x');
        }, TunnelLamps::load);
    }
}
