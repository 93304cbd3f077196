import java.util.List;

/** Promises 13 to 21 and 23: the actions but for the hours, and undo. */
final class ActionTests {
    private ActionTests() { }

    static void addTo(List<Check.Test> tests) {
        tests.add(new Check.Test("promise 13: gallery", ActionTests::gallery));
        tests.add(new Check.Test("promise 13: gallery refuses", ActionTests::galleryRefuses));
        tests.add(new Check.Test("promise 14: miner", ActionTests::miner));
        tests.add(new Check.Test("promise 14: miner refuses", ActionTests::minerRefuses));
        tests.add(new Check.Test("promise 15: send", ActionTests::send));
        tests.add(new Check.Test("promise 15: send refuses", ActionTests::sendRefuses));
        tests.add(new Check.Test("promise 16: lamp", ActionTests::lamp));
        tests.add(new Check.Test("promise 16: lamp refuses", ActionTests::lampRefuses));
        tests.add(new Check.Test("promise 17: store", ActionTests::store));
        tests.add(new Check.Test("promise 17: store refuses", ActionTests::storeRefuses));
        tests.add(new Check.Test("promise 18: hang", ActionTests::hang));
        tests.add(new Check.Test("promise 18: hang refuses", ActionTests::hangRefuses));
        tests.add(new Check.Test("promise 19: fill", ActionTests::fill));
        tests.add(new Check.Test("promise 19: fill refuses", ActionTests::fillRefuses));
        tests.add(new Check.Test("promise 20: drop", ActionTests::drop));
        tests.add(new Check.Test("promise 20: drop refuses a carried lamp", ActionTests::dropRefusesLamp));
        tests.add(new Check.Test("promise 20: drop refuses carried oil", ActionTests::dropRefusesOil));
        tests.add(new Check.Test("promise 20: drop where no oil was to be had", ActionTests::dropWithoutOil));
        tests.add(new Check.Test("promise 20: drop refuses", ActionTests::dropRefuses));
        tests.add(new Check.Test("promise 21: set", ActionTests::set));
        tests.add(new Check.Test("promise 21: set refuses", ActionTests::setRefuses));
        tests.add(new Check.Test("promise 23: undo of each action", ActionTests::undoEach));
        tests.add(new Check.Test("promise 23: undo of fourteen", ActionTests::undoFourteen));
        tests.add(new Check.Test("promise 23: what undo passes over", ActionTests::undoPassesOver));
        tests.add(new Check.Test("promise 23: undo leaves text and slots", ActionTests::undoLeaves));
        tests.add(new Check.Test("promise 23: undo refuses", ActionTests::undoRefuses));
    }

    private static TunnelLamps smallMine() {
        TunnelLamps x = new TunnelLamps();
        x.gallery(9);
        x.gallery(4);
        x.miner(0, 2);
        x.lamp(0, 5, 3, 40);
        return x;
    }

    private static void gallery() {
        TunnelLamps x = new TunnelLamps();
        Check.equal("first", 0, x.gallery(1));
        Check.equal("second", 1, x.gallery(60));
        Check.equal("third", 2, x.gallery(7));
        Check.equal("depth", 60, x.galleryOf(1, 0));
        Check.equal("strokes", 0, x.galleryOf(1, 1));
        Check.equal("galleries", 3, x.about(0));
        Check.equal("cells dug by miners", 0, x.about(12));
    }

    private static void galleryRefuses() {
        TunnelLamps x = new TunnelLamps();
        Check.refused("0", x, Check.OUT_OF_RANGE, () -> x.gallery(0));
        Check.refused("61", x, Check.OUT_OF_RANGE, () -> x.gallery(61));
        Check.refused("-1", x, Check.OUT_OF_RANGE, () -> x.gallery(-1));
        x.gallery(1);
        x.gallery(1);
        x.gallery(1);
        Check.refused("a fourth", x, Check.NOT_POSSIBLE, () -> x.gallery(1));
        Check.refused("both", x, Check.OUT_OF_RANGE, () -> x.gallery(61));
        Check.equal("no action", 2, x.undo());
    }

    private static void miner() {
        TunnelLamps x = new TunnelLamps();
        x.gallery(5);
        x.gallery(5);
        for (int m = 0; m < 6; m++) {
            Check.equal("number", m, x.miner(m % 2, 1 + m % 5));
        }
        Check.equal("gallery", 1, x.minerOf(3, 0));
        Check.equal("pace", 5, x.minerOf(4, 1));
        Check.equal("miners", 6, x.about(1));
    }

    private static void minerRefuses() {
        TunnelLamps x = new TunnelLamps();
        Check.refused("no gallery", x, Check.NO_SUCH, () -> x.miner(0, 1));
        x.gallery(5);
        Check.refused("gallery 1", x, Check.NO_SUCH, () -> x.miner(1, 1));
        Check.refused("gallery -1", x, Check.NO_SUCH, () -> x.miner(-1, 1));
        Check.refused("pace 0", x, Check.OUT_OF_RANGE, () -> x.miner(0, 0));
        Check.refused("pace 6", x, Check.OUT_OF_RANGE, () -> x.miner(0, 6));
        Check.refused("gallery and pace", x, Check.NO_SUCH, () -> x.miner(1, 6));
        for (int m = 0; m < 6; m++) {
            x.miner(0, 1);
        }
        Check.refused("a seventh", x, Check.NOT_POSSIBLE, () -> x.miner(0, 1));
        Check.refused("a seventh and pace", x, Check.OUT_OF_RANGE, () -> x.miner(0, 6));
        Check.refused("all", x, Check.NO_SUCH, () -> x.miner(1, 6));
        Check.equal("no action", 6, x.undo());
    }

    private static void send() {
        TunnelLamps x = smallMine();
        x.miner(1, 3);
        Check.equal("from 0", 0, x.send(0, 1));
        Check.equal("there already", 1, x.send(0, 1));
        Check.equal("gallery", 1, x.minerOf(0, 0));
        Check.equal("both in it", 2, x.galleryOf(1, 4));
        Check.equal("none in it", 0, x.galleryOf(0, 4));
        x.hours(1);
        Check.equal("in the dark there", 1, x.minerOf(0, 3));
    }

    private static void sendRefuses() {
        TunnelLamps x = smallMine();
        Check.refused("miner 1", x, Check.NO_SUCH, () -> x.send(1, 0));
        Check.refused("miner -1", x, Check.NO_SUCH, () -> x.send(-1, 0));
        Check.refused("gallery 2", x, Check.NO_SUCH, () -> x.send(0, 2));
        Check.refused("gallery -1", x, Check.NO_SUCH, () -> x.send(0, -1));
        Check.equal("no action", 3, x.undo());
    }

    private static void lamp() {
        TunnelLamps x = new TunnelLamps();
        x.gallery(5);
        Check.equal("first", 0, x.lamp(0, 0, 1, 0));
        Check.equal("second", 1, x.lamp(0, 4, 9, 99));
        Check.equal("oil in lamps", 99, x.about(5));
        Check.equal("oil that came", 99, x.about(9));
        for (int l = 2; l < 8; l++) {
            Check.equal("number", l, x.lamp(0, l % 5, l, 10 * l));
        }
        Check.equal("reach", 7, x.lampOf(7, 0));
        Check.equal("oil", 70, x.lampOf(7, 1));
        Check.equal("gallery", 0, x.lampOf(7, 2));
        Check.equal("cell", 2, x.lampOf(7, 3));
        Check.equal("lamps", 8, x.about(2));
    }

    private static void lampRefuses() {
        TunnelLamps x = new TunnelLamps();
        Check.refused("no gallery", x, Check.NO_SUCH, () -> x.lamp(0, 0, 1, 0));
        x.gallery(5);
        Check.refused("gallery 1", x, Check.NO_SUCH, () -> x.lamp(1, 0, 1, 0));
        Check.refused("gallery -1", x, Check.NO_SUCH, () -> x.lamp(-1, 0, 1, 0));
        Check.refused("the face", x, Check.NO_SUCH, () -> x.lamp(0, 5, 1, 0));
        Check.refused("cell -1", x, Check.NO_SUCH, () -> x.lamp(0, -1, 1, 0));
        Check.refused("reach 0", x, Check.OUT_OF_RANGE, () -> x.lamp(0, 4, 0, 0));
        Check.refused("reach 10", x, Check.OUT_OF_RANGE, () -> x.lamp(0, 4, 10, 0));
        Check.refused("oil -1", x, Check.OUT_OF_RANGE, () -> x.lamp(0, 4, 1, -1));
        Check.refused("oil 100", x, Check.OUT_OF_RANGE, () -> x.lamp(0, 4, 1, 100));
        Check.refused("cell and oil", x, Check.NO_SUCH, () -> x.lamp(0, 5, 1, 100));
        for (int l = 0; l < 8; l++) {
            x.lamp(0, 0, 1, 0);
        }
        Check.refused("a ninth", x, Check.NOT_POSSIBLE, () -> x.lamp(0, 0, 1, 0));
        Check.refused("a ninth and reach", x, Check.OUT_OF_RANGE, () -> x.lamp(0, 0, 10, 0));
        Check.refused("all", x, Check.NO_SUCH, () -> x.lamp(0, 5, 10, 100));
        Check.equal("no action", 8, x.undo());
    }

    private static void store() {
        TunnelLamps x = new TunnelLamps();
        Check.equal("none", 0, x.store(0));
        for (int i = 1; i <= 10; i++) {
            Check.equal("oil", 999 * i, x.store(999));
        }
        Check.equal("full", 9999, x.store(9));
        Check.equal("nothing more", 9999, x.store(0));
        Check.equal("oil", 9999, x.about(4));
        Check.equal("came", 9999, x.about(9));
    }

    private static void storeRefuses() {
        TunnelLamps x = new TunnelLamps();
        Check.refused("-1", x, Check.OUT_OF_RANGE, () -> x.store(-1));
        Check.refused("1000", x, Check.OUT_OF_RANGE, () -> x.store(1000));
        for (int i = 1; i <= 10; i++) {
            x.store(999);
        }
        Check.refused("above 9999", x, Check.NOT_POSSIBLE, () -> x.store(10));
        Check.refused("both", x, Check.OUT_OF_RANGE, () -> x.store(1000));
        Check.refused("most", x, Check.OUT_OF_RANGE, () -> x.store(Integer.MAX_VALUE));
        Check.equal("no action", 9, x.undo());
    }

    private static void hang() {
        TunnelLamps x = smallMine();
        Check.equal("first", 1, x.hang(0, 1, 3));
        Check.equal("second", 2, x.hang(0, 0, 8));
        Check.equal("the first is followed", 3, x.orderOf(0, 3));
        Check.equal("the second is behind", 8, x.orderOf(1, 3));
        Check.equal("nothing is done yet", 5, x.lampOf(0, 3));
        x.hang(0, 0, 0);
        x.hang(0, 0, 0);
        x.hang(0, 0, 0);
        Check.equal("sixth", 6, x.hang(0, 0, 5));
    }

    private static void hangRefuses() {
        TunnelLamps x = smallMine();
        Check.refused("lamp 1", x, Check.NO_SUCH, () -> x.hang(1, 0, 0));
        Check.refused("lamp -1", x, Check.NO_SUCH, () -> x.hang(-1, 0, 0));
        Check.refused("gallery 2", x, Check.NO_SUCH, () -> x.hang(0, 2, 0));
        Check.refused("gallery -1", x, Check.NO_SUCH, () -> x.hang(0, -1, 0));
        Check.refused("the face", x, Check.NO_SUCH, () -> x.hang(0, 1, 4));
        Check.refused("cell -1", x, Check.NO_SUCH, () -> x.hang(0, 1, -1));
        for (int k = 0; k < 6; k++) {
            x.hang(0, 0, k);
        }
        Check.refused("a seventh", x, Check.NOT_POSSIBLE, () -> x.hang(0, 0, 0));
        Check.refused("both", x, Check.NO_SUCH, () -> x.hang(0, 0, 9));
        Check.equal("no action", 9, x.undo());
    }

    private static void fill() {
        TunnelLamps x = smallMine();
        Check.equal("first", 1, x.fill(0, 1));
        Check.equal("second", 2, x.fill(0, 99));
        Check.equal("n", 99, x.orderOf(1, 2));
        Check.equal("nothing is done yet", 40, x.lampOf(0, 1));
    }

    private static void fillRefuses() {
        TunnelLamps x = smallMine();
        Check.refused("lamp 1", x, Check.NO_SUCH, () -> x.fill(1, 1));
        Check.refused("lamp -1", x, Check.NO_SUCH, () -> x.fill(-1, 1));
        Check.refused("0", x, Check.OUT_OF_RANGE, () -> x.fill(0, 0));
        Check.refused("100", x, Check.OUT_OF_RANGE, () -> x.fill(0, 100));
        Check.refused("lamp and n", x, Check.NO_SUCH, () -> x.fill(1, 0));
        for (int k = 0; k < 6; k++) {
            x.fill(0, 1);
        }
        Check.refused("a seventh", x, Check.NOT_POSSIBLE, () -> x.fill(0, 1));
        Check.refused("a seventh and n", x, Check.OUT_OF_RANGE, () -> x.fill(0, 100));
        Check.refused("all", x, Check.NO_SUCH, () -> x.fill(1, 100));
        Check.equal("no action", 9, x.undo());
    }

    private static void drop() {
        TunnelLamps x = smallMine();
        x.hang(0, 0, 1);
        x.fill(0, 2);
        x.hang(0, 1, 3);
        Check.equal("the middle one", 2, x.drop(1));
        Check.equal("the last one moves up", 3, x.orderOf(1, 3));
        Check.equal("the first one", 1, x.drop(0));
        Check.equal("the last one is followed", 3, x.orderOf(0, 3));
        x.hours(1);
        Check.equal("on the way nothing is carried", 0, x.drop(0));
        x.hours(1);
        Check.equal("he stays where he stands", 4, x.lad(1));
    }

    private static void dropRefusesLamp() {
        TunnelLamps x = smallMine();
        x.hang(0, 1, 3);
        x.fill(0, 2);
        x.hours(2);
        Check.equal("he carries it", 0, x.lad(2));
        Check.refused("carried", x, Check.NOT_POSSIBLE, () -> x.drop(0));
        Check.equal("another one", 1, x.drop(1));
        Check.refused("carried still", x, Check.NOT_POSSIBLE, () -> x.drop(0));
        x.fill(0, 2);
        x.hours(2);
        Check.equal("hung", 1, x.lampOf(0, 2));
        Check.equal("the next one", 0, x.drop(0));
    }

    private static void dropRefusesOil() {
        TunnelLamps x = smallMine();
        x.store(7);
        x.fill(0, 2);
        x.hang(0, 0, 8);
        x.hours(1);
        Check.equal("he carries oil", 2, x.about(6));
        Check.refused("carried", x, Check.NOT_POSSIBLE, () -> x.drop(0));
        Check.equal("another one", 1, x.drop(1));
        x.hours(1);
        Check.equal("poured", 40, x.lampOf(0, 1));
        x.fill(0, 2);
        Check.equal("not yet fetched", 0, x.drop(0));
    }

    private static void dropWithoutOil() {
        TunnelLamps x = smallMine();
        x.fill(0, 9);
        x.hours(1);
        Check.equal("he carries none", 0, x.about(6));
        Check.equal("he goes on all the same", 4, x.lad(1));
        x.fill(0, 9);
        Check.equal("he may leave it", 1, x.drop(0));
        x.store(50);
        Check.equal("he has to go back for the next one", 4 + 5, x.lad(3));
        x.hours(3);
        Check.equal("filled", 40 - 4 + 9, x.lampOf(0, 1));
    }

    private static void dropRefuses() {
        TunnelLamps x = smallMine();
        Check.refused("no order", x, Check.NO_SUCH, () -> x.drop(0));
        x.hang(0, 1, 3);
        Check.refused("1", x, Check.NO_SUCH, () -> x.drop(1));
        Check.refused("-1", x, Check.NO_SUCH, () -> x.drop(-1));
        x.hours(2);
        Check.refused("carried, but another one", x, Check.NO_SUCH, () -> x.drop(1));
        Check.equal("no action", 5, x.undo());
    }

    private static void set() {
        TunnelLamps x = new TunnelLamps();
        Check.equal("setting 0 at first", 4, x.set(0, 12));
        Check.equal("setting 0", 12, x.set(0, 0));
        Check.equal("setting 0 again", 0, x.set(0, 0));
        Check.equal("setting 1 at first", 0, x.set(1, 1));
        Check.equal("setting 1", 1, x.set(1, 0));
        Check.equal("setting 0 is kept", 0, x.set(0, 4));
    }

    private static void setRefuses() {
        TunnelLamps x = new TunnelLamps();
        Check.refused("what -1", x, Check.OUT_OF_RANGE, () -> x.set(-1, 0));
        Check.refused("what 2", x, Check.OUT_OF_RANGE, () -> x.set(2, 0));
        Check.refused("0, -1", x, Check.OUT_OF_RANGE, () -> x.set(0, -1));
        Check.refused("0, 13", x, Check.OUT_OF_RANGE, () -> x.set(0, 13));
        Check.refused("1, -1", x, Check.OUT_OF_RANGE, () -> x.set(1, -1));
        Check.refused("1, 2", x, Check.OUT_OF_RANGE, () -> x.set(1, 2));
        Check.refused("no action", x, Check.NOT_POSSIBLE, x::undo);
        Check.equal("setting 0 is kept", 4, x.set(0, 4));
        Check.equal("setting 1 is kept", 0, x.set(1, 0));
    }

    private static void undoOne(String name, Twins.Ask action) {
        TunnelLamps x = smallMine();
        x.store(50);
        x.fill(0, 9);
        String before = Check.look(x);
        action.of(x);
        String behind = Check.look(x);
        Check.equal("states left behind " + name, 6, x.undo());
        Check.same(name, before, Check.look(x));
        action.of(x);
        Check.same(name + " again", behind, Check.look(x));
    }

    private static void undoEach() {
        undoOne("gallery", x -> x.gallery(3));
        undoOne("miner", x -> x.miner(1, 3));
        undoOne("send", x -> x.send(0, 1));
        undoOne("lamp", x -> x.lamp(0, 1, 2, 3));
        undoOne("store", x -> x.store(3));
        undoOne("hang", x -> x.hang(0, 0, 8));
        undoOne("fill", x -> x.fill(0, 8));
        undoOne("drop", x -> x.drop(0));
        undoOne("set", x -> x.set(1, 1));
        undoOne("hours", x -> x.hours(60));
        undoOne("an hour", x -> x.hours(1));
        TunnelLamps x = smallMine();
        x.set(0, 9);
        x.undo();
        Check.equal("setting 0", 4, x.set(0, 4));
    }

    private static void undoFourteen() {
        TunnelLamps x = new TunnelLamps();
        for (int i = 1; i <= 40; i++) {
            x.store(i);
        }
        int oil = 820;
        for (int i = 13; i >= 0; i--) {
            Check.equal("states left", i, x.undo());
            oil -= 27 + i;
            Check.equal("oil", oil, x.about(4));
        }
        Check.refused("the fifteenth", x, Check.NOT_POSSIBLE, x::undo);
        for (int i = 0; i < 5; i++) {
            x.store(1);
        }
        Check.equal("four of five", 4, x.undo());
        Check.equal("oil", oil + 4, x.about(4));
    }

    private static void undoPassesOver() {
        TunnelLamps x = smallMine();
        x.set(0, 4);
        Check.equal("nothing became different", 4, x.undo());
        x.store(0);
        Check.equal("nothing became different", 4, x.undo());
        x.append('T');
        x.save(0);
        x.errorPosition();
        x.clearText();
        x.darkIn(0);
        x.depthIn(0, 9);
        x.doneIn();
        x.bestCell(0, 0, 5);
        x.steps(0, 0, 0, 1);
        x.runScript(1, 100009);
        x.simulate(5, 9);
        Check.equal("no actions", 3, x.undo());
        Check.equal("no lamp yet", 0, x.about(2));
    }

    private static void undoLeaves() {
        TunnelLamps x = smallMine();
        x.append('T');
        x.store(9);
        x.save(1);
        x.append('x');
        x.undo();
        Check.equal("the text", 2, x.clearText());
        Check.equal("the oil", 0, x.about(4));
        x.restore(1);
        Check.equal("the slot", 9, x.about(4));
    }

    private static void undoRefuses() {
        TunnelLamps x = new TunnelLamps();
        Check.refused("nothing is remembered", x, Check.NOT_POSSIBLE, x::undo);
        x.store(1);
        x.undo();
        Check.refused("all is taken back", x, Check.NOT_POSSIBLE, x::undo);
    }
}
