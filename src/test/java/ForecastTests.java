import java.util.List;

/** Promises 24 to 28: what would be. */
final class ForecastTests {
    private ForecastTests() { }

    static void addTo(List<Check.Test> tests) {
        tests.add(new Check.Test("promise 24: darkIn", ForecastTests::darkIn));
        tests.add(new Check.Test("promise 24: darkIn up to 200", ForecastTests::darkInFarAhead));
        tests.add(new Check.Test("promise 24: darkIn counts with the lad", ForecastTests::darkInWithLad));
        tests.add(new Check.Test("promise 24: darkIn refuses", ForecastTests::darkInRefuses));
        tests.add(new Check.Test("promise 25: depthIn", ForecastTests::depthIn));
        tests.add(new Check.Test("promise 25: depthIn refuses", ForecastTests::depthInRefuses));
        tests.add(new Check.Test("promise 26: doneIn", ForecastTests::doneIn));
        tests.add(new Check.Test("promise 26: doneIn up to 200", ForecastTests::doneInFarAhead));
        tests.add(new Check.Test("promise 26: doneIn is as if setting 1 were 0", ForecastTests::doneInSetting));
        tests.add(new Check.Test("promise 27: bestCell", ForecastTests::bestCell));
        tests.add(new Check.Test("promise 27: bestCell as tried by hand", ForecastTests::bestCellByHand));
        tests.add(new Check.Test("promise 27: bestCell refuses", ForecastTests::bestCellRefuses));
        tests.add(new Check.Test("promise 28: steps", ForecastTests::steps));
        tests.add(new Check.Test("promise 28: steps refuses", ForecastTests::stepsRefuses));
        tests.add(new Check.Test("promises 24 to 30: nothing is changed", ForecastTests::nothingIsChanged));
    }

    private static void darkIn() {
        TunnelLamps x = new TunnelLamps();
        x.gallery(8);
        x.gallery(3);
        x.gallery(60);
        Check.equal("dark now", 0, x.darkIn(0));
        x.lamp(0, 6, 3, 5);
        Check.equal("till the lamp has burnt out", 5, x.darkIn(0));
        x.miner(0, 5);
        Check.equal("the face moves out of the light", 3, x.darkIn(0));
        Check.equal("another gallery", 0, x.darkIn(1));
        Check.equal("the cell 60", 0, x.darkIn(2));
        x.lamp(2, 59, 1, 9);
        Check.equal("the cell 60", 9, x.darkIn(2));
    }

    /** A lamp with 99 oil that is filled three times, just before it would be full, and lights so long. */
    private static TunnelLamps lampThatBurns(int hours) {
        TunnelLamps x = new TunnelLamps();
        x.gallery(60);
        x.lamp(0, 59, 1, 99);
        x.store(999);
        x.set(0, 2);
        x.fill(0, 30);
        x.fill(0, 59);
        x.fill(0, hours - 99 - 30 - 59);
        return x;
    }

    private static void darkInFarAhead() {
        Check.equal("199 hours", 199, lampThatBurns(199).darkIn(0));
        Check.equal("200 hours", 200, lampThatBurns(200).darkIn(0));
        Check.equal("201 hours", TunnelLamps.NONE, lampThatBurns(201).darkIn(0));
    }

    private static void darkInWithLad() {
        TunnelLamps x = new TunnelLamps();
        x.gallery(9);
        x.lamp(0, 8, 1, 50);
        x.hang(0, 0, 0);
        Check.equal("taken away behind 8 steps", 2, x.darkIn(0));
        x.set(0, 1);
        Check.equal("slower", 8, x.darkIn(0));
        x.set(0, 0);
        Check.equal("never", 50, x.darkIn(0));
    }

    private static void darkInRefuses() {
        TunnelLamps x = new TunnelLamps();
        Check.refused("no gallery", x, Check.NO_SUCH, () -> x.darkIn(0));
        x.gallery(1);
        Check.refused("1", x, Check.NO_SUCH, () -> x.darkIn(1));
        Check.refused("-1", x, Check.NO_SUCH, () -> x.darkIn(-1));
    }

    private static void depthIn() {
        TunnelLamps x = new TunnelLamps();
        x.gallery(8);
        x.gallery(8);
        x.lamp(0, 6, 9, 99);
        x.miner(0, 5);
        Check.equal("cell 8 takes 5", 9, x.depthIn(0, 1));
        Check.equal("cell 9 takes 6", 9, x.depthIn(0, 2));
        Check.equal("as far as it is lit", 16, x.depthIn(0, 200));
        Check.equal("another gallery", 8, x.depthIn(1, 200));
        for (int g = 0; g < 2; g++) {
            depthInAsByHours(g);
        }
    }

    private static TunnelLamps mineWithOwnOrders() {
        TunnelLamps x = new TunnelLamps();
        x.gallery(8);
        x.gallery(8);
        x.lamp(0, 6, 9, 99);
        x.lamp(1, 7, 2, 99);
        x.miner(0, 5);
        x.miner(1, 3);
        x.hang(1, 1, 0);
        x.set(1, 1);
        return x;
    }

    private static void depthInAsByHours(int g) {
        TunnelLamps x = mineWithOwnOrders();
        TunnelLamps y = mineWithOwnOrders();
        for (int n = 1; n <= 200; n++) {
            y.hours(1);
            Check.equal("gallery " + g + " behind " + n, y.galleryOf(g, 0), x.depthIn(g, n));
        }
        Check.equal("the lad has found lamps to move", 1, mineWithOwnOrders().depthIn(0, 200) > 16 ? 1 : 0);
    }

    private static void depthInRefuses() {
        TunnelLamps x = new TunnelLamps();
        Check.refused("no gallery", x, Check.NO_SUCH, () -> x.depthIn(0, 1));
        x.gallery(1);
        Check.refused("1", x, Check.NO_SUCH, () -> x.depthIn(1, 1));
        Check.refused("-1", x, Check.NO_SUCH, () -> x.depthIn(-1, 1));
        Check.refused("n 0", x, Check.OUT_OF_RANGE, () -> x.depthIn(0, 0));
        Check.refused("n 201", x, Check.OUT_OF_RANGE, () -> x.depthIn(0, 201));
        Check.refused("both", x, Check.NO_SUCH, () -> x.depthIn(1, 0));
    }

    private static void doneIn() {
        TunnelLamps x = new TunnelLamps();
        Check.equal("no order", 0, x.doneIn());
        x.gallery(20);
        x.lamp(0, 4, 1, 0);
        x.lamp(0, 0, 1, 0);
        x.fill(1, 5);
        Check.equal("no step", 1, x.doneIn());
        x.hang(0, 0, 8);
        Check.equal("eight steps", 2, x.doneIn());
        x.hang(0, 0, 7);
        Check.equal("nine steps", 3, x.doneIn());
        x.set(0, 12);
        Check.equal("twelve an hour", 1, x.doneIn());
        x.set(0, 0);
        Check.equal("none", TunnelLamps.NONE, x.doneIn());
        x.drop(2);
        x.drop(1);
        Check.equal("no step to make", 1, x.doneIn());
    }

    private static void doneInFarAhead() {
        TunnelLamps x = new TunnelLamps();
        x.gallery(60);
        x.lamp(0, 50, 1, 0);
        x.set(0, 1);
        x.fill(0, 1);
        x.fill(0, 1);
        x.hang(0, 0, 0);
        Check.equal("steps", 200, x.lad(3));
        Check.equal("200 hours", 200, x.doneIn());
        x.hang(0, 0, 1);
        Check.equal("201 hours", TunnelLamps.NONE, x.doneIn());
        x.set(0, 2);
        Check.equal("twice as fast", 101, x.doneIn());
    }

    private static void doneInSetting() {
        TunnelLamps x = new TunnelLamps();
        x.gallery(9);
        x.gallery(9);
        x.miner(0, 1);
        x.lamp(0, 0, 1, 90);
        x.lamp(1, 8, 1, 90);
        x.set(1, 1);
        x.set(0, 8);
        x.hang(1, 1, 0);
        x.hang(1, 1, 8);
        Check.equal("without the order that he would give himself", 3, x.doneIn());
        x.hours(3);
        Check.equal("the order that he gave himself", 1, x.about(10));
        Check.equal("it is counted when it is there", 2, x.doneIn());
    }

    private static void bestCell() {
        TunnelLamps x = new TunnelLamps();
        x.gallery(5);
        x.gallery(9);
        x.lamp(0, 4, 2, 90);
        Check.equal("nothing is dug: the greatest", 4, x.bestCell(0, 0, 9));
        Check.equal("in another gallery too", 8, x.bestCell(0, 1, 100));
        x.miner(0, 1);
        Check.equal("too short to dig a cell", 4, x.bestCell(0, 0, 1));
        x.miner(1, 5);
        Check.equal("where most is dug", 8, x.bestCell(0, 1, 20));
        x.set(0, 0);
        Check.equal("no step is made: all are alike", 8, x.bestCell(0, 1, 100));
    }

    /** The best cell, found by calls of hang, hours and undo. */
    private static int tryAll(TunnelLamps x, int l, int g, int n) {
        int best = -1;
        int most = -1;
        int depth = x.galleryOf(g, 0);
        for (int c = 0; c < depth; c++) {
            x.hang(l, g, c);
            int dug = x.hours(n);
            x.undo();
            x.undo();
            if (dug >= most) {
                most = dug;
                best = c;
            }
        }
        return best;
    }

    private static void bestCellByHand() {
        int[] answers = new int[60];
        for (int kind = 0; kind < 40; kind++) {
            TunnelLamps x = new TunnelLamps();
            x.gallery(3 + kind % 17);
            x.gallery(2 + kind % 7);
            x.miner(0, 1 + kind % 5);
            x.miner(1, 1 + kind % 3);
            x.lamp(0, kind % 3, 1 + kind % 9, 40 + kind);
            x.lamp(1, 1, 1 + kind % 4, 60);
            x.set(0, 1 + kind % 6);
            x.set(1, kind % 2);
            if (kind % 4 == 0) {
                x.hang(1, 0, 2);
            }
            for (int l = 0; l < 2; l++) {
                for (int g = 0; g < 2; g++) {
                    int best = tryAll(x, l, g, 30);
                    Check.equal("kind " + kind + ", lamp " + l + ", gallery " + g, best, x.bestCell(l, g, 30));
                    answers[best]++;
                }
            }
        }
        int different = 0;
        for (int count : answers) {
            different += count > 0 ? 1 : 0;
        }
        Check.equal("there are many different answers", 1, different >= 8 ? 1 : 0);
    }

    private static void bestCellRefuses() {
        TunnelLamps x = new TunnelLamps();
        Check.refused("nothing there", x, Check.NO_SUCH, () -> x.bestCell(0, 0, 1));
        x.gallery(5);
        Check.refused("no lamp", x, Check.NO_SUCH, () -> x.bestCell(0, 0, 1));
        x.lamp(0, 0, 1, 5);
        Check.refused("lamp 1", x, Check.NO_SUCH, () -> x.bestCell(1, 0, 1));
        Check.refused("lamp -1", x, Check.NO_SUCH, () -> x.bestCell(-1, 0, 1));
        Check.refused("gallery 1", x, Check.NO_SUCH, () -> x.bestCell(0, 1, 1));
        Check.refused("gallery -1", x, Check.NO_SUCH, () -> x.bestCell(0, -1, 1));
        Check.refused("n 0", x, Check.OUT_OF_RANGE, () -> x.bestCell(0, 0, 0));
        Check.refused("n 101", x, Check.OUT_OF_RANGE, () -> x.bestCell(0, 0, 101));
        Check.refused("lamp and n", x, Check.NO_SUCH, () -> x.bestCell(1, 0, 0));
        for (int k = 0; k < 6; k++) {
            x.fill(0, 1);
        }
        Check.refused("six orders", x, Check.NOT_POSSIBLE, () -> x.bestCell(0, 0, 1));
        Check.refused("six orders and n", x, Check.OUT_OF_RANGE, () -> x.bestCell(0, 0, 101));
        Check.refused("all", x, Check.NO_SUCH, () -> x.bestCell(1, 0, 101));
    }

    private static void steps() {
        TunnelLamps x = new TunnelLamps();
        x.gallery(9);
        x.gallery(60);
        Check.equal("none", 0, x.steps(0, 8, 0, 8));
        Check.equal("forwards", 5, x.steps(0, 3, 0, 8));
        Check.equal("backwards", 8, x.steps(0, 8, 0, 0));
        Check.equal("over the mouth", 67, x.steps(0, 8, 1, 59));
        Check.equal("the same number", 10, x.steps(1, 5, 0, 5));
        Check.equal("from the mouth", 5, x.steps(1, 0, 0, 5));
        Check.equal("side by side", 0, x.steps(1, 0, 0, 0));
    }

    private static void stepsRefuses() {
        TunnelLamps x = new TunnelLamps();
        Check.refused("no gallery", x, Check.NO_SUCH, () -> x.steps(0, 0, 0, 0));
        x.gallery(5);
        x.gallery(7);
        Check.refused("gallery 2", x, Check.NO_SUCH, () -> x.steps(2, 0, 0, 0));
        Check.refused("gallery -1", x, Check.NO_SUCH, () -> x.steps(-1, 0, 0, 0));
        Check.refused("cell 5", x, Check.NO_SUCH, () -> x.steps(0, 5, 0, 0));
        Check.refused("cell -1", x, Check.NO_SUCH, () -> x.steps(0, -1, 0, 0));
        Check.refused("gallery2 2", x, Check.NO_SUCH, () -> x.steps(0, 0, 2, 0));
        Check.refused("gallery2 -1", x, Check.NO_SUCH, () -> x.steps(0, 0, -1, 0));
        Check.refused("cell2 7", x, Check.NO_SUCH, () -> x.steps(0, 0, 1, 7));
        Check.refused("cell2 -1", x, Check.NO_SUCH, () -> x.steps(0, 0, 1, -1));
    }

    private static void nothingIsChanged() {
        Twins.Ask[] asks = {x -> x.darkIn(0), x -> x.depthIn(1, 200), TunnelLamps::doneIn, x -> x.bestCell(1, 0, 100),
            x -> x.steps(0, 1, 1, 2), x -> x.runScript(3, 100060410000501000L), x -> x.simulate(77, 60)};
        for (Twins.Ask ask : asks) {
            TunnelLamps x = Check.withText("Tg08g03m14m03l006340l102109s150h0107f106h0002a1t02");
            x.load();
            x.store(1);
            String before = Check.look(x);
            long first = ask.of(x);
            Check.same("nothing is changed", before, Check.look(x));
            Check.equal("the same answer", first, ask.of(x));
            Check.equal("one action", 0, x.undo());
        }
    }
}
