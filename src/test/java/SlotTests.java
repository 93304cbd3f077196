import java.util.List;

/** Promises 31 and 32: save slots. */
final class SlotTests {
    private SlotTests() { }

    static void addTo(List<Check.Test> tests) {
        tests.add(new Check.Test("promise 31: save", SlotTests::save));
        tests.add(new Check.Test("promise 31: save refuses", SlotTests::saveRefuses));
        tests.add(new Check.Test("promise 32: restore", SlotTests::restore));
        tests.add(new Check.Test("promise 32: restore of all there is", SlotTests::restoreAll));
        tests.add(new Check.Test("promise 32: restore forgets states", SlotTests::restoreForgets));
        tests.add(new Check.Test("promise 32: restore refuses", SlotTests::restoreRefuses));
    }

    private static void save() {
        TunnelLamps x = new TunnelLamps();
        Check.equal("time", 0, x.save(0));
        x.hours(7);
        Check.equal("time", 7, x.save(1));
        x.hours(5);
        Check.equal("saved over", 12, x.save(0));
        Check.equal("slot 1 is kept", 7, x.restore(1));
        Check.equal("slot 0", 12, x.restore(0));
    }

    private static void saveRefuses() {
        TunnelLamps x = new TunnelLamps();
        Check.refused("-1", x, Check.NO_SUCH, () -> x.save(-1));
        Check.refused("2", x, Check.NO_SUCH, () -> x.save(2));
        Check.refused("nothing is saved", x, Check.NOT_POSSIBLE, () -> x.restore(0));
        Check.refused("nothing is saved", x, Check.NOT_POSSIBLE, () -> x.restore(1));
    }

    private static void restore() {
        TunnelLamps x = new TunnelLamps();
        x.hours(4);
        x.store(9);
        x.save(1);
        x.store(5);
        x.append('T');
        Check.equal("time", 4, x.restore(1));
        Check.equal("oil", 9, x.about(4));
        Check.equal("the text is kept", 1, x.clearText());
        x.hours(6);
        Check.equal("the slot keeps it", 4, x.restore(1));
    }

    private static void restoreAll() {
        TunnelLamps x = Check.withText("Tg08g03m14m03l006340l102109s150h0102f106h0002a1t02");
        x.load();
        x.set(0, 3);
        x.hours(1);
        x.save(0);
        String saved = Check.look(x);
        x.hours(40);
        String behind = Check.look(x);
        x.gallery(3);
        x.miner(2, 1);
        x.send(0, 0);
        x.lamp(0, 0, 1, 1);
        x.set(0, 12);
        x.set(1, 0);
        x.restore(0);
        Check.same("saved", saved, Check.look(x));
        x.hours(40);
        Check.same("the same goes on from there", behind, Check.look(x));
        x.restore(0);
        Check.equal("setting 0", 3, x.set(0, 0));
        Check.equal("setting 1", 1, x.set(1, 0));
    }

    private static void restoreForgets() {
        TunnelLamps x = new TunnelLamps();
        x.store(1);
        x.save(0);
        x.store(2);
        x.restore(0);
        Check.refused("undo", x, Check.NOT_POSSIBLE, x::undo);
        x.store(3);
        Check.equal("one action since", 0, x.undo());
        Check.equal("oil", 1, x.about(4));
    }

    private static void restoreRefuses() {
        TunnelLamps x = new TunnelLamps();
        x.store(1);
        x.save(1);
        Check.refused("-1", x, Check.NO_SUCH, () -> x.restore(-1));
        Check.refused("2", x, Check.NO_SUCH, () -> x.restore(2));
        Check.refused("nothing is saved", x, Check.NOT_POSSIBLE, () -> x.restore(0));
        Check.equal("the action is remembered", 0, x.undo());
    }
}
