import java.util.List;

/** Edges of actions and undo, of exceptions, and of promise 23. */
final class EdgeUndoTests {
    private static final String IS_ACTION = "Each call of one of them that does not throw an exception is an action, also if"
            + " nothing becomes different (undo is none).";
    private static final String AT_MOST = "At most 14 states are remembered; when one more is remembered, the oldest one is"
            + " forgotten.";
    private static final String FIRST_NAMED = "If several exceptions apply to a call, the one that its description names"
            + " first is thrown.";
    private static final String NONE_REMEMBERED = "Throws IllegalStateException if none is remembered";

    /** Each action, on a busy mine. */
    private static final Twins.Ask[] ACTIONS = {x -> x.gallery(3), x -> x.miner(1, 4), x -> x.send(0, 1),
        x -> x.lamp(1, 2, 3, 4), x -> x.store(5), x -> x.hang(0, 1, 6), x -> x.fill(1, 7), x -> x.drop(1),
        x -> x.set(0, 8), x -> x.set(1, 0), x -> x.hours(1), x -> x.hours(60)};

    private EdgeUndoTests() { }

    static void addTo(List<Check.Test> tests) {
        Sentences undo = new Sentences(tests, "ACTIONS AND UNDO");
        undo.test("The methods in the section \"actions\" change the state, which consists of everything but the text and"
                + " the save slots.", EdgeUndoTests::allButTextAndSlots);
        undo.test(IS_ACTION, "each of them", EdgeUndoTests::eachIsAction);
        undo.test(IS_ACTION, "nothing becomes different", EdgeUndoTests::nothingDifferent);
        undo.test(IS_ACTION, "undo", EdgeUndoTests::undoIsNone);
        undo.test(IS_ACTION, "a call that throws", EdgeUndoTests::refusedIsNone);
        undo.test("Before each action, the state is remembered.", EdgeUndoTests::rememberedBefore);
        undo.test(AT_MOST, "13, 14, 15, and rounds of them", EdgeUndoTests::atMostFourteen);
        undo.test(AT_MOST, "some taken back between", EdgeUndoTests::fourteenAgain);
        undo.test("load and restore are not actions.", EdgeUndoTests::loadAndRestore);
        addExceptions(new Sentences(tests, "EXCEPTIONS"));
        Sentences promise = new Sentences(tests, "Promise 23");
        promise.test("Takes back the last action that is remembered.", EdgeUndoTests::lastOne);
        promise.test("Returns how many states are still remembered.", EdgeUndoTests::stillRemembered);
        promise.test(NONE_REMEMBERED, "a new object", EdgeUndoTests::noneInNewObject);
        promise.test(NONE_REMEMBERED, "all is taken back", EdgeUndoTests::noneBehindUndo);
        promise.test(NONE_REMEMBERED, "forgotten", EdgeUndoTests::noneBehindRestore);
    }

    private static void addExceptions(Sentences exceptions) {
        exceptions.test("IndexOutOfBoundsException means that a gallery, a cell, a miner, a lamp or an order does not"
                + " exist (a cell exists if it is dug, where nothing else is told)", EdgeUndoTests::existing);
        exceptions.test("or that a save slot is not 0 or 1.", EdgeUndoTests::slots);
        exceptions.test("IllegalArgumentException means that another argument is out of its range.",
                EdgeUndoTests::anotherArgument);
        exceptions.test(FIRST_NAMED, "there is none, and out of range", EdgeUndoTests::noneBeforeRange);
        exceptions.test(FIRST_NAMED, "there is none, and too many", EdgeUndoTests::noneBeforeTooMany);
        exceptions.test(FIRST_NAMED, "out of range, and too many", EdgeUndoTests::rangeBeforeTooMany);
        exceptions.test("A call that throws an exception changes nothing.", EdgeUndoTests::changesNothing);
    }

    private static void allButTextAndSlots() {
        TunnelLamps x = Twins.made(Twins::busy);
        int time = x.about(3);
        Check.write(x, "Tt0");
        x.save(1);
        x.hours(9);
        x.append('5');
        x.save(0);
        x.undo();
        Check.equal("the state is taken back", time, x.about(3));
        Check.equal("the text is not", TunnelLamps.NONE, x.errorPosition());
        Check.equal("the slot 0 is not", time + 9, x.restore(0));
        Check.equal("the slot 1 is not", time, x.restore(1));
        Check.equal("the text is not", 4, x.clearText());
        for (Twins.Ask action : ACTIONS) {
            TunnelLamps y = Twins.made(Twins::busy);
            action.of(y);
            y.restore(0);
            Check.same("the slot", Check.look(restored()), Check.look(y));
        }
    }

    private static TunnelLamps restored() {
        TunnelLamps x = Twins.made(Twins::busy);
        x.restore(0);
        return x;
    }

    private static void eachIsAction() {
        for (int i = 0; i < ACTIONS.length; i++) {
            TunnelLamps x = Twins.made(Twins::busy);
            x.save(0);
            x.restore(0);
            ACTIONS[i].of(x);
            Check.equal("action " + i, 0, x.undo());
        }
    }

    private static void nothingDifferent() {
        Twins.Ask[] asks = {x -> x.set(0, 3), x -> x.set(1, 1), x -> x.send(0, 0), x -> x.store(0)};
        for (Twins.Ask ask : asks) {
            TunnelLamps x = Twins.made(Twins::busy);
            String before = Check.look(x);
            ask.of(x);
            Check.same("nothing becomes different", before, Check.look(x));
            Check.equal("but it is remembered", 12, x.undo());
            Check.same("nothing becomes different", before, Check.look(x));
        }
    }

    private static void undoIsNone() {
        TunnelLamps x = new TunnelLamps();
        x.store(1);
        x.store(2);
        x.store(4);
        Check.equal("left", 2, x.undo());
        Check.equal("left", 1, x.undo());
        Check.equal("the oil of the first", 1, x.about(4));
        Check.equal("left", 0, x.undo());
        Check.refused("it cannot be taken back", x, Check.NOT_POSSIBLE, x::undo);
    }

    private static void refusedIsNone() {
        TunnelLamps x = new TunnelLamps();
        x.store(7);
        Twins.Ask[] refused = {y -> y.gallery(0), y -> y.miner(0, 1), y -> y.send(0, 0), y -> y.lamp(0, 0, 1, 1),
            y -> y.store(1000), y -> y.hang(0, 0, 0), y -> y.fill(0, 1), y -> y.drop(0), y -> y.set(2, 0),
            y -> y.hours(0)};
        for (Twins.Ask ask : refused) {
            Check.equal("it is refused", 1, Check.outcome(() -> ask.of(x)).endsWith("Exception") ? 1 : 0);
        }
        Check.equal("one action", 0, x.undo());
        Check.equal("it is the one that was done", 0, x.about(4));
    }

    private static void rememberedBefore() {
        for (int i = 0; i < ACTIONS.length; i++) {
            Twins.Ask action = ACTIONS[i];
            Twins.leftAlone("action " + i + " and undo", Twins::busy, x -> {
                action.of(x);
                return x.undo();
            });
        }
        Twins.Ask[] withAll = {x -> x.send(5, 0), x -> x.store(9), x -> x.drop(1), x -> x.drop(5), x -> x.set(0, 12),
            x -> x.set(1, 0), x -> x.hours(1), x -> x.hours(60)};
        for (int i = 0; i < withAll.length; i++) {
            Twins.Ask action = withAll[i];
            Twins.leftAlone("with all there may be, action " + i, x -> {
                Twins.full(x);
                x.save(0);
                x.restore(0);
            }, x -> {
                action.of(x);
                return x.undo();
            });
        }
        Twins.leftAlone("all actions and undo", x -> x.gallery(9), x -> {
            x.gallery(5);
            x.miner(0, 2);
            x.lamp(0, 0, 1, 9);
            x.hang(0, 1, 4);
            x.hours(3);
            x.set(0, 9);
            int left = 0;
            for (int i = 0; i < 6; i++) {
                left = x.undo();
            }
            return left;
        });
    }

    private static void atMostFourteen() {
        for (int many : new int[] {1, 13, 14, 15, 16, 27, 28, 29, 42, 43, 100}) {
            TunnelLamps x = new TunnelLamps();
            for (int i = 0; i < many; i++) {
                x.store(1);
            }
            int remembered = Math.min(many, 14);
            for (int left = remembered - 1; left >= 0; left--) {
                Check.equal("left of " + many, left, x.undo());
                Check.equal("oil", many - remembered + left, x.about(4));
            }
            Check.refused("one more of " + many, x, Check.NOT_POSSIBLE, x::undo);
        }
    }

    private static void fourteenAgain() {
        TunnelLamps x = new TunnelLamps();
        for (int i = 0; i < 20; i++) {
            x.store(1);
        }
        for (int i = 0; i < 5; i++) {
            x.undo();
        }
        Check.equal("fifteen are not taken back", 15, x.about(4));
        for (int i = 0; i < 6; i++) {
            x.store(100);
        }
        for (int left = 13; left >= 8; left--) {
            Check.equal("left", left, x.undo());
            Check.equal("oil of the new ones", 15 + 100 * (left - 8), x.about(4));
        }
        for (int left = 7; left >= 0; left--) {
            Check.equal("left", left, x.undo());
            Check.equal("oil of the old ones", 7 + left, x.about(4));
        }
        Check.refused("one more", x, Check.NOT_POSSIBLE, x::undo);
    }

    private static void loadAndRestore() {
        TunnelLamps x = Check.withText("Tg09s009");
        x.store(5);
        x.load();
        Check.refused("load", x, Check.NOT_POSSIBLE, x::undo);
        x.save(0);
        x.store(5);
        x.restore(0);
        Check.refused("restore", x, Check.NOT_POSSIBLE, x::undo);
        x.store(5);
        x.save(1);
        Check.equal("save is none, the action before it is", 0, x.undo());
        Check.equal("oil", 9, x.about(4));
    }

    private static void existing() {
        Twins.Ask[] asks = {x -> x.galleryOf(2, 0), x -> x.minerOf(2, 0), x -> x.lampOf(2, 0), x -> x.orderOf(2, 0),
            x -> x.lit(2, 0), x -> x.miner(2, 1), x -> x.send(2, 0), x -> x.send(0, 2), x -> x.lamp(2, 0, 1, 1),
            x -> x.lamp(0, 9, 1, 1), x -> x.hang(2, 0, 0), x -> x.hang(0, 2, 0), x -> x.hang(0, 0, 9),
            x -> x.fill(2, 1), x -> x.drop(2), x -> x.darkIn(2), x -> x.depthIn(2, 1), x -> x.bestCell(2, 0, 1),
            x -> x.bestCell(0, 2, 1), x -> x.steps(2, 0, 0, 0), x -> x.steps(0, 9, 0, 0), x -> x.steps(0, 0, 2, 0),
            x -> x.steps(0, 0, 0, 9)};
        for (int i = 0; i < asks.length; i++) {
            Twins.refused("call " + i, Check.NO_SUCH, Twins::busy, asks[i]);
        }
        TunnelLamps x = Twins.made(Twins::busy);
        Check.equal("a dug cell", 8, x.steps(0, 8, 0, 0));
        x.lamp(0, 8, 9, 9);
        x.miner(0, 5);
        x.hours(2);
        Check.equal("a cell that has been dug since", 9, x.steps(0, 9, 0, 0));
    }

    private static void slots() {
        Twins.refused("save 2", Check.NO_SUCH, Twins::busy, x -> x.save(2));
        Twins.refused("save -1", Check.NO_SUCH, Twins::busy, x -> x.save(-1));
        Twins.refused("restore 2", Check.NO_SUCH, Twins::busy, x -> x.restore(2));
        Twins.refused("restore -1", Check.NO_SUCH, Twins::busy, x -> x.restore(-1));
    }

    private static void anotherArgument() {
        Twins.Ask[] asks = {x -> x.append(256), x -> x.about(13), x -> x.galleryOf(0, 6), x -> x.minerOf(0, 4),
            x -> x.lampOf(0, 5), x -> x.lad(4), x -> x.orderOf(0, 4), x -> x.lit(0, 2), x -> x.gallery(61),
            x -> x.miner(0, 6), x -> x.lamp(0, 0, 10, 0), x -> x.lamp(0, 0, 1, 100), x -> x.store(1000),
            x -> x.fill(0, 100), x -> x.set(2, 0), x -> x.set(0, 13), x -> x.set(1, 2), x -> x.hours(61),
            x -> x.depthIn(0, 201), x -> x.bestCell(0, 0, 101), x -> x.runScript(4, 0), x -> x.runScript(1, 1000000),
            x -> x.runScript(1, -1), x -> x.simulate(0, 61)};
        for (int i = 0; i < asks.length; i++) {
            Twins.refused("call " + i, Check.OUT_OF_RANGE, Twins::busyWithLamp, asks[i]);
        }
    }

    /** As many of everything as there may be. */
    private static void full(TunnelLamps x) {
        Twins.full(x);
        for (int i = 0; i < 9; i++) {
            x.store(999);
        }
        x.store(9999 - x.about(4));
    }

    private static void fullText(TunnelLamps x) {
        Twins.busy(x);
        Check.write(x, "T" + "a1".repeat(59) + "a");
    }

    private static void noneBeforeRange() {
        Twins.Ask[] asks = {x -> x.galleryOf(3, 6), x -> x.minerOf(6, 4), x -> x.lampOf(8, 5), x -> x.orderOf(6, 4),
            x -> x.lit(3, 2), x -> x.depthIn(3, 0), x -> x.depthIn(-1, 201)};
        for (int i = 0; i < asks.length; i++) {
            Twins.refused("call " + i, Check.NO_SUCH, EdgeUndoTests::full, asks[i]);
        }
        Twins.refused("lamp", Check.NO_SUCH, Twins::busy, x -> x.lamp(0, 9, 0, 100));
        Twins.refused("miner", Check.NO_SUCH, Twins::busy, x -> x.miner(2, 0));
        Twins.refused("fill", Check.NO_SUCH, Twins::busy, x -> x.fill(2, 0));
        Twins.refused("bestCell", Check.NO_SUCH, Twins::busy, x -> x.bestCell(2, 0, 0));
        Twins.refused("bestCell", Check.NO_SUCH, Twins::busy, x -> x.bestCell(0, 2, 101));
    }

    private static void noneBeforeTooMany() {
        Twins.Ask[] asks = {x -> x.miner(3, 1), x -> x.miner(3, 0), x -> x.lamp(3, 0, 1, 0), x -> x.lamp(0, 9, 1, 0),
            x -> x.lamp(0, 9, 0, -1), x -> x.hang(8, 0, 0), x -> x.hang(0, 3, 0), x -> x.hang(0, 0, 9),
            x -> x.fill(8, 1), x -> x.fill(8, 0), x -> x.drop(6), x -> x.bestCell(8, 0, 1), x -> x.bestCell(0, 3, 1),
            x -> x.bestCell(8, 0, 0), x -> x.restore(2), x -> x.restore(-1)};
        for (int i = 0; i < asks.length; i++) {
            Twins.refused("call " + i, Check.NO_SUCH, EdgeUndoTests::full, asks[i]);
        }
        Twins.refused("drop", Check.NO_SUCH, Twins::busyWithLamp, x -> x.drop(6));
    }

    private static void rangeBeforeTooMany() {
        Twins.Ask[] asks = {x -> x.gallery(0), x -> x.gallery(61), x -> x.miner(0, 0), x -> x.miner(0, 6),
            x -> x.lamp(0, 0, 0, 0), x -> x.lamp(0, 0, 1, 100), x -> x.store(1000),
            x -> x.store(Integer.MAX_VALUE), x -> x.store(-1), x -> x.fill(0, 0), x -> x.fill(0, 100),
            x -> x.bestCell(0, 0, 0), x -> x.bestCell(0, 0, 101)};
        for (int i = 0; i < asks.length; i++) {
            Twins.refused("call " + i, Check.OUT_OF_RANGE, EdgeUndoTests::full, asks[i]);
        }
        Twins.refused("append", Check.OUT_OF_RANGE, EdgeUndoTests::fullText, x -> x.append(256));
        Twins.refused("append", Check.OUT_OF_RANGE, EdgeUndoTests::fullText, x -> x.append(-1));
        Twins.refused("too many alone, append", Check.NOT_POSSIBLE, EdgeUndoTests::fullText, x -> x.append(255));
        Twins.Ask[] alone = {x -> x.gallery(60), x -> x.miner(0, 5), x -> x.lamp(0, 0, 1, 99),
            x -> x.store(1), x -> x.hang(0, 0, 0), x -> x.fill(0, 99), x -> x.bestCell(0, 0, 100), x -> x.restore(0)};
        for (int i = 0; i < alone.length; i++) {
            Twins.refused("too many alone, call " + i, Check.NOT_POSSIBLE, EdgeUndoTests::full, alone[i]);
        }
    }

    /** Every call that can be refused, on mines with much and with all that may be remembered. */
    private static void changesNothing() {
        Twins.Ask[] asks = {x -> x.append(-1), x -> x.about(-1), x -> x.galleryOf(-1, 0), x -> x.minerOf(-1, 0),
            x -> x.lampOf(-1, 0), x -> x.lad(-1), x -> x.orderOf(-1, 0), x -> x.lit(-1, 0), x -> x.gallery(0),
            x -> x.miner(-1, 1), x -> x.send(-1, 0), x -> x.lamp(0, -1, 1, 1), x -> x.store(-1), x -> x.hang(-1, 0, 0),
            x -> x.fill(-1, 1), x -> x.drop(-1), x -> x.drop(0), x -> x.set(-1, 0), x -> x.hours(0), x -> x.darkIn(-1),
            x -> x.depthIn(-1, 1), x -> x.bestCell(-1, 0, 1), x -> x.steps(0, 0, 0, -1), x -> x.runScript(0, 0),
            x -> x.simulate(0, 0), x -> x.save(-1), x -> x.restore(-1)};
        Twins.Setup[] setups = {Twins::busy, Twins::busyWithLamp};
        for (Twins.Setup setup : setups) {
            for (int i = 0; i < asks.length; i++) {
                Twins.Ask ask = asks[i];
                String thrown = Check.outcome(() -> ask.of(Twins.made(setup)));
                Class<?> due = thrown.startsWith("Index") ? Check.NO_SUCH
                        : thrown.startsWith("IllegalA") ? Check.OUT_OF_RANGE : Check.NOT_POSSIBLE;
                Twins.refused("call " + i, due, setup, ask);
            }
        }
    }

    private static void lastOne() {
        TunnelLamps x = new TunnelLamps();
        x.gallery(9);
        x.gallery(8);
        x.set(0, 7);
        x.undo();
        Check.equal("the setting alone", 2, x.about(0));
        Check.equal("the setting", 4, x.set(0, 4));
        x.undo();
        x.undo();
        Check.equal("then the gallery", 1, x.about(0));
        Check.equal("the first is left", 9, x.galleryOf(0, 0));
        x.gallery(7);
        x.undo();
        Check.equal("the new one", 1, x.about(0));
        x.undo();
        Check.equal("all", 0, x.about(0));
    }

    private static void stillRemembered() {
        TunnelLamps x = new TunnelLamps();
        x.store(1);
        Check.equal("none of one", 0, x.undo());
        for (int i = 0; i < 14; i++) {
            x.store(1);
        }
        Check.equal("of fourteen", 13, x.undo());
        x.store(1);
        x.store(1);
        Check.equal("of fifteen", 13, x.undo());
        for (int left = 12; left >= 0; left--) {
            Check.equal("still", left, x.undo());
        }
    }

    private static void noneInNewObject() {
        Twins.refused("a new object", Check.NOT_POSSIBLE, x -> { }, TunnelLamps::undo);
        Twins.refused("text and slots are no actions", Check.NOT_POSSIBLE, x -> {
            x.append('T');
            x.save(0);
            x.clearText();
            x.darkIn(x.gallery(5));
            x.undo();
        }, TunnelLamps::undo);
    }

    private static void noneBehindUndo() {
        Twins.refused("one", Check.NOT_POSSIBLE, x -> {
            x.store(1);
            x.undo();
        }, TunnelLamps::undo);
        Twins.refused("twenty, fourteen of which are remembered", Check.NOT_POSSIBLE, x -> {
            for (int i = 0; i < 20; i++) {
                x.store(1);
            }
            for (int i = 0; i < 14; i++) {
                x.undo();
            }
        }, TunnelLamps::undo);
    }

    private static void noneBehindRestore() {
        Twins.refused("restore", Check.NOT_POSSIBLE, Twins.busyAnd(x -> x.restore(0)), TunnelLamps::undo);
        Twins.refused("load", Check.NOT_POSSIBLE, Twins.busyAnd(TunnelLamps::load), TunnelLamps::undo);
    }
}
