import java.util.List;

/** Edges of promises 31 and 32: save slots. */
final class EdgeSlotTests {
    private static final String SAVES = "Stores the present state in a save slot.";
    private static final String NO_SLOT = "Throws IndexOutOfBoundsException if there is no such save slot";
    private static final String NOTHING_SAVED = "Throws IllegalStateException if nothing has been saved in it since the last"
            + " load";

    private EdgeSlotTests() { }

    static void addTo(List<Check.Test> tests) {
        Sentences save = new Sentences(tests, "Promise 31");
        save.test(SAVES, "everything but text and slots", EdgeSlotTests::savesEverything);
        save.test(SAVES, "with all there may be", EdgeSlotTests::savesAllThereMayBe);
        save.test(SAVES, "as it is now", EdgeSlotTests::savesAsItIsNow);
        save.test("slot: 0 or 1", EdgeSlotTests::twoSlots);
        save.test("Returns the time.", () -> {
            TunnelLamps x = new TunnelLamps();
            Check.equal("none", 0, x.save(0));
            x.hours(60);
            Check.equal("sixty hours", 60, x.save(0));
        });
        save.test(NO_SLOT, () -> Twins.refusedOutside("slot", 0, 1, Check.NO_SUCH, Twins::busy, TunnelLamps::save));
        Sentences restore = new Sentences(tests, "Promise 32");
        restore.test("Replaces the state by the one in a save slot", EdgeSlotTests::replaces);
        restore.test("and forgets all remembered states.", EdgeSlotTests::forgets);
        restore.test("The save slot keeps it.", EdgeSlotTests::keeps);
        restore.test("slot: 0 or 1", EdgeSlotTests::eachItsOwn);
        restore.test("Returns the time then.", EdgeSlotTests::timeThen);
        restore.test(NO_SLOT, "one of them saved", () -> Twins.refusedOutside("slot", 0, 1, Check.NO_SUCH, Twins::busy,
                TunnelLamps::restore));
        restore.test(NO_SLOT, "nothing saved", () -> Twins.refusedOutside("slot", 0, 1, Check.NO_SUCH, x -> x.store(5),
                TunnelLamps::restore));
        restore.test(NOTHING_SAVED, "never", EdgeSlotTests::neverSaved);
        restore.test(NOTHING_SAVED, "since the last load", EdgeSlotTests::savedBeforeLoad);
    }

    private static void savesEverything() {
        for (Twins.Setup setup : new Twins.Setup[] {Twins::busy, Twins::busyWithLamp}) {
            TunnelLamps x = Twins.made(setup);
            String saved = Check.look(x);
            x.save(1);
            x.drop(1);
            x.gallery(1);
            x.miner(0, 5);
            x.lamp(0, 0, 9, 99);
            x.store(999);
            x.set(0, 12);
            x.set(1, 0);
            x.hours(60);
            x.restore(1);
            Check.same("seen", saved, Check.look(x));
            TunnelLamps twin = Twins.made(setup);
            Check.equal("simulated", twin.simulate(3, 60), x.simulate(3, 60));
            x.hours(60);
            twin.hours(60);
            Check.same("it goes on in the same way", Check.look(twin), Check.look(x));
            Check.equal("setting 0", 3, x.set(0, 5));
            Check.equal("setting 1", 1, x.set(1, 0));
        }
    }

    private static void savesAllThereMayBe() {
        for (int slot = 0; slot < 2; slot++) {
            TunnelLamps x = Twins.made(Twins::full);
            String saved = Check.look(x);
            x.save(slot);
            x.send(5, 1);
            x.drop(5);
            x.store(999);
            x.set(0, 12);
            x.set(1, 0);
            x.hours(60);
            x.hours(60);
            x.restore(slot);
            Check.same("seen", saved, Check.look(x));
            TunnelLamps twin = Twins.made(Twins::full);
            x.hours(60);
            twin.hours(60);
            Check.same("it goes on in the same way", Check.look(twin), Check.look(x));
            Check.equal("setting 0", 5, x.set(0, 0));
            Check.equal("setting 1", 1, x.set(1, 0));
        }
    }

    private static void savesAsItIsNow() {
        TunnelLamps x = new TunnelLamps();
        x.store(5);
        x.save(0);
        x.store(6);
        x.restore(0);
        Check.equal("not what came later", 5, x.about(4));
        x.store(7);
        x.save(0);
        x.undo();
        Check.equal("it is taken back", 5, x.about(4));
        x.restore(0);
        Check.equal("but not in the slot", 12, x.about(4));
        TunnelLamps y = new TunnelLamps();
        y.save(0);
        y.gallery(9);
        Check.equal("a new mine", 0, y.restore(0));
        Check.equal("no gallery", 0, y.about(0));
    }

    private static void twoSlots() {
        TunnelLamps x = new TunnelLamps();
        x.hours(1);
        Check.equal("slot 0", 1, x.save(0));
        x.hours(1);
        Check.equal("slot 1", 2, x.save(1));
        Check.equal("slot 0 is kept", 1, x.restore(0));
        Check.equal("slot 1 is kept", 2, x.restore(1));
        x.hours(1);
        x.save(1);
        Check.equal("saved over", 3, x.restore(1));
        Check.equal("the other one is not", 1, x.restore(0));
        Twins.refused("slot 2", Check.NO_SUCH, Twins::busy, y -> y.save(2));
        Twins.refused("slot -1", Check.NO_SUCH, Twins::busy, y -> y.save(-1));
    }

    private static void replaces() {
        TunnelLamps x = Twins.made(Twins::busy);
        x.save(1);
        TunnelLamps y = Twins.made(Twins::busy);
        y.gallery(3);
        y.save(1);
        y.restore(0);
        x.restore(0);
        Check.same("less than there was", Check.look(x), Check.look(y));
        y.restore(1);
        Check.equal("more than there was", 3, y.about(0));
        Check.equal("the text stays", TunnelLamps.NONE, y.errorPosition());
    }

    private static void forgets() {
        TunnelLamps x = new TunnelLamps();
        for (int i = 0; i < 20; i++) {
            x.store(1);
        }
        x.save(0);
        x.restore(0);
        Check.refused("none is remembered", x, Check.NOT_POSSIBLE, x::undo);
        for (int i = 0; i < 14; i++) {
            x.store(1);
        }
        for (int left = 13; left >= 0; left--) {
            Check.equal("actions since", left, x.undo());
        }
        Check.equal("the restored state", 20, x.about(4));
        Check.refused("none is remembered", x, Check.NOT_POSSIBLE, x::undo);
    }

    private static void keeps() {
        TunnelLamps x = Twins.made(Twins::busy);
        x.restore(0);
        String saved = Check.look(x);
        for (int round = 0; round < 3; round++) {
            x.hours(30);
            x.send(0, 1);
            x.restore(0);
            Check.same("round " + round, saved, Check.look(x));
        }
    }

    private static void eachItsOwn() {
        TunnelLamps x = new TunnelLamps();
        x.save(1);
        x.store(5);
        x.save(0);
        x.store(5);
        x.restore(1);
        Check.equal("slot 1", 0, x.about(4));
        x.restore(0);
        Check.equal("slot 0", 5, x.about(4));
        Twins.refused("slot 2", Check.NO_SUCH, Twins::busy, y -> y.restore(2));
        Twins.refused("slot -1", Check.NO_SUCH, Twins::busy, y -> y.restore(-1));
    }

    private static void timeThen() {
        TunnelLamps x = new TunnelLamps();
        x.save(0);
        x.hours(60);
        x.save(1);
        x.hours(5);
        Check.equal("of the slot 0", 0, x.restore(0));
        Check.equal("of the slot 1", 60, x.restore(1));
        Check.equal("the time", 60, x.about(3));
    }

    private static void neverSaved() {
        Twins.refused("slot 0, a new object", Check.NOT_POSSIBLE, x -> { }, x -> x.restore(0));
        Twins.refused("slot 1, a new object", Check.NOT_POSSIBLE, x -> { }, x -> x.restore(1));
        Twins.refused("slot 1, the other one is saved", Check.NOT_POSSIBLE, Twins::busy, x -> x.restore(1));
        Twins.refused("slot 0, the other one is saved", Check.NOT_POSSIBLE, x -> x.save(1), x -> x.restore(0));
    }

    private static void savedBeforeLoad() {
        Twins.Setup loaded = x -> {
            Twins.busyWithLamp(x);
            x.load();
        };
        Twins.refused("slot 0", Check.NOT_POSSIBLE, loaded, x -> x.restore(0));
        Twins.refused("slot 1", Check.NOT_POSSIBLE, loaded, x -> x.restore(1));
        TunnelLamps x = Twins.made(loaded);
        int time = x.save(1);
        x.hours(1);
        Check.equal("saved since", time, x.restore(1));
        Check.refused("the other one", x, Check.NOT_POSSIBLE, () -> x.restore(0));
        TunnelLamps y = Twins.made(Twins::busyWithLamp);
        Check.write(y, "x");
        Check.refused("a load that throws", y, Check.NOT_POSSIBLE, y::load);
        y.restore(0);
        y.restore(1);
    }
}
