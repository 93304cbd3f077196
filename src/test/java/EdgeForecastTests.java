import java.util.List;

/** Edges of promises 24 to 28: what would be. */
final class EdgeForecastTests {
    private static final int NONE = TunnelLamps.NONE;
    private static final String NO_GALLERY = "Throws IndexOutOfBoundsException if there is no such gallery";
    private static final String N_OUT_OF_RANGE = "Throws IllegalArgumentException if n is out of range";
    private static final String DARK_IN = "Returns behind how many hours its face is not lit, 0 if it is not now, up to 200,"
            + " if nothing else is done; NONE if it is lit all the time.";
    private static final String DEPTH_IN = "Returns its depth behind n hours, if nothing else is done.";
    private static final String DONE_IN = "Returns behind how many hours he has no order, 0 if he has none now, up to 200,"
            + " if nothing else is done, and setting 1 is 0; NONE if he has some all the time.";
    private static final String BEST_CELL = "Returns of the dug cells of the gallery the one for which, if the lad got an"
            + " order to hang the lamp there now, behind all others that he has, most cells would be dug in all galleries"
            + " in n hours; of several the greatest.";

    private EdgeForecastTests() { }

    static void addTo(List<Check.Test> tests) {
        new Sentences(tests, "EXCEPTIONS").test("what would be; these and all following methods up to the save slots"
                + " change nothing.", EdgeForecastTests::changeNothing);
        Sentences dark = new Sentences(tests, "Promise 24");
        dark.test(DARK_IN, "not lit now", EdgeForecastTests::darkNow);
        dark.test(DARK_IN, "1 to 99 hours", EdgeForecastTests::darkBehindHours);
        dark.test(DARK_IN, "199, 200, 201 hours", EdgeForecastTests::darkFarAhead);
        dark.test(DARK_IN, "dark for a while only", EdgeForecastTests::darkForAWhile);
        dark.test(DARK_IN, "the lad goes on with his orders, and gives himself some", EdgeForecastTests::darkAsByHours);
        dark.test(NO_GALLERY, () -> noGallery((x, g) -> x.darkIn(g)));
        Sentences depth = new Sentences(tests, "Promise 25");
        depth.test("n: 1 to 200", EdgeForecastTests::depthAmounts);
        depth.test(DEPTH_IN, "each number of hours", EdgeForecastTests::depthAsByHours);
        depth.test(DEPTH_IN, "each number of hours, with all there may be", EdgeForecastTests::depthWithAll);
        depth.test(DEPTH_IN, "1 and 60", EdgeForecastTests::depthEdges);
        depth.test(NO_GALLERY, () -> noGallery((x, g) -> x.depthIn(g, 1)));
        depth.test(N_OUT_OF_RANGE, () -> Twins.refusedOutside("n", 1, 200, Check.OUT_OF_RANGE, Twins::busy,
                (x, n) -> x.depthIn(1, n)));
        Sentences done = new Sentences(tests, "Promise 26");
        done.test(DONE_IN, "none now", EdgeForecastTests::doneNow);
        done.test(DONE_IN, "an hour at least, if he has one", EdgeForecastTests::doneWithoutStep);
        done.test(DONE_IN, "199, 200, 201 hours", EdgeForecastTests::doneFarAhead);
        done.test(DONE_IN, "setting 1 is 0", EdgeForecastTests::doneAsIfHeDidNotKnow);
        done.test(DONE_IN, "no step in an hour", EdgeForecastTests::doneNever);
        addBestCellSteps(tests);
    }

    private static void addBestCellSteps(List<Check.Test> tests) {
        Sentences best = new Sentences(tests, "Promise 27");
        best.test("n: 1 to 100", EdgeForecastTests::bestAmounts);
        best.test(BEST_CELL, "of several the greatest", EdgeForecastTests::bestOfSeveral);
        best.test(BEST_CELL, "1 and 60 dug cells", EdgeForecastTests::bestOfOneAndSixty);
        best.test(BEST_CELL, "as by hang and hours", EdgeForecastTests::bestAsByHours);
        best.test(BEST_CELL, "in all galleries", EdgeForecastTests::bestInAllGalleries);
        best.test(BEST_CELL, "behind five others", EdgeForecastTests::bestBehindFive);
        best.test("Throws IndexOutOfBoundsException if there is no such lamp or gallery", EdgeForecastTests::bestNoSuch);
        best.test(N_OUT_OF_RANGE, () -> Twins.refusedOutside("n", 1, 100, Check.OUT_OF_RANGE, Twins::busy,
                (x, n) -> x.bestCell(0, 1, n)));
        best.test("Throws IllegalStateException if the lad has 6 orders", () -> {
            Twins.refused("six", Check.NOT_POSSIBLE, withOrders(6), x -> x.bestCell(0, 0, 1));
            Twins.leftAlone("five", withOrders(5), x -> x.bestCell(0, 0, 1));
        });
        Sentences steps = new Sentences(tests, "Promise 28");
        steps.test("Returns the steps.", EdgeForecastTests::stepsAnswered);
        steps.test("Throws IndexOutOfBoundsException if there is no such gallery or cell", EdgeForecastTests::stepsNoSuch);
    }

    private static TunnelLamps galleries(int... depths) {
        TunnelLamps x = new TunnelLamps();
        for (int depth : depths) {
            x.gallery(depth);
        }
        return x;
    }

    private static void changeNothing() {
        Twins.Ask[] asks = {x -> x.darkIn(0), x -> x.depthIn(1, 200), TunnelLamps::doneIn, x -> x.bestCell(1, 0, 100),
            x -> x.steps(0, 1, 1, 2), x -> x.runScript(3, 100060_400120_510000L), x -> x.simulate(77, 60)};
        for (int i = 0; i < asks.length; i++) {
            Twins.leftAlone("call " + i, Twins::busy, asks[i]);
            Twins.leftAlone("call " + i, Twins::busyWithLamp, asks[i]);
        }
    }

    private static void noGallery(Twins.AskOne ask) {
        Twins.refusedOutside("gallery", 0, 1, Check.NO_SUCH, Twins::busy, ask);
        Twins.refused("no gallery at all", Check.NO_SUCH, x -> x.store(5), x -> ask.of(x, 0));
    }

    private static void darkNow() {
        TunnelLamps x = galleries(9, 60);
        Check.equal("no lamp", 0, x.darkIn(0));
        x.lamp(0, 8, 1, 0);
        x.lamp(0, 7, 1, 9);
        Check.equal("no oil, and too far", 0, x.darkIn(0));
        Check.equal("the depth 60", 0, x.darkIn(1));
        x.lamp(1, 59, 1, 9);
        Check.equal("the depth 60, lit", 9, x.darkIn(1));
    }

    private static void darkBehindHours() {
        for (int oil = 1; oil <= 99; oil++) {
            TunnelLamps x = galleries(9);
            x.lamp(0, 8, 1, oil);
            Check.equal("oil", oil, x.darkIn(0));
        }
        TunnelLamps x = galleries(8);
        x.lamp(0, 7, 1, 99);
        x.miner(0, 5);
        Check.equal("the face moves on", 1, x.darkIn(0));
    }

    /** The lamp at the mouth is filled behind 80 hours, and behind 160, and burns for so long. */
    private static TunnelLamps burnsFor(int hours) {
        TunnelLamps x = galleries(9, 60);
        x.lamp(0, 0, 9, 99);
        x.lamp(1, 40, 1, 0);
        x.store(200);
        x.set(0, 1);
        x.hang(1, 1, 0);
        x.fill(0, 80);
        x.hang(1, 1, 40);
        x.hang(1, 1, 0);
        x.fill(0, hours - 179);
        return x;
    }

    private static void darkFarAhead() {
        Check.equal("199", 199, burnsFor(199).darkIn(0));
        Check.equal("200", 200, burnsFor(200).darkIn(0));
        Check.equal("201", NONE, burnsFor(201).darkIn(0));
        Check.equal("258", NONE, burnsFor(258).darkIn(0));
        TunnelLamps x = burnsFor(201);
        x.hours(1);
        Check.equal("201, an hour later", 200, x.darkIn(0));
    }

    private static void darkForAWhile() {
        TunnelLamps x = galleries(9);
        x.lamp(0, 7, 2, 99);
        x.hang(0, 0, 8);
        x.set(0, 7);
        Check.equal("while it is carried", 1, x.darkIn(0));
        x.set(0, 8);
        Check.equal("carried within an hour", 99, x.darkIn(0));
    }

    private static void darkAsByHours() {
        for (int kind = 0; kind < 60; kind++) {
            for (int g = 0; g < 2; g++) {
                TunnelLamps x = mine(kind);
                int told = x.darkIn(g);
                int hour = 0;
                while (hour <= 200 && x.galleryOf(g, 3) == 1) {
                    x.hours(1);
                    hour++;
                }
                Check.equal("gallery " + g + ", kind " + kind, hour <= 200 ? hour : NONE, told);
            }
        }
    }

    /** Mines of many kinds, with two galleries, miners, two lamps, and orders. */
    private static TunnelLamps mine(int kind) {
        TunnelLamps x = galleries(3 + kind % 17, 2 + kind % 7);
        x.miner(0, 1 + kind % 5);
        x.miner(1, 1 + kind % 3);
        x.lamp(0, kind % 3, 1 + kind % 9, 40 + kind % 60);
        x.lamp(1, 1, 1 + kind % 4, 60);
        x.set(0, 1 + kind % 6);
        x.set(1, kind % 2);
        x.store(kind * 3);
        if (kind % 4 == 0) {
            x.hang(1, 0, 2);
        }
        if (kind % 3 == 0) {
            x.fill(0, 1 + kind);
        }
        return x;
    }

    private static void depthAmounts() {
        TunnelLamps x = galleries(8);
        x.lamp(0, 7, 9, 99);
        x.miner(0, 5);
        Check.equal("1: the cell 8 takes five", 9, x.depthIn(0, 1));
        // The lamp at the face is filled in the hour 194, behind so many steps; the cell 9 takes six strokes.
        TunnelLamps y = galleries(9, 60);
        y.lamp(0, 8, 1, 0);
        y.lamp(1, 50, 1, 0);
        y.store(99);
        y.miner(0, 1);
        y.set(0, 1);
        y.hang(1, 1, 0);
        y.hang(1, 1, 43);
        y.hang(1, 1, 0);
        y.fill(0, 99);
        Check.equal("steps", 194, y.lad(3));
        Check.equal("199", 9, y.depthIn(0, 199));
        Check.equal("200", 10, y.depthIn(0, 200));
    }

    private static void depthEdges() {
        TunnelLamps x = galleries(59, 1);
        x.lamp(0, 58, 1, 99);
        x.lamp(1, 0, 1, 99);
        x.miner(0, 2);
        Check.equal("59 as yet", 59, x.depthIn(0, 3));
        Check.equal("60", 60, x.depthIn(0, 4));
        Check.equal("60 at most", 60, x.depthIn(0, 200));
        Check.equal("1 without a miner", 1, x.depthIn(1, 200));
    }

    private static void depthAsByHours() {
        for (int kind = 0; kind < 24; kind++) {
            TunnelLamps x = mine(kind);
            TunnelLamps y = mine(kind);
            int g = kind % 2;
            for (int n = 1; n <= 200; n++) {
                y.hours(1);
                Check.equal("kind " + kind + " behind " + n, y.galleryOf(g, 0), x.depthIn(g, n));
            }
        }
    }

    private static void depthWithAll() {
        for (int g = 0; g < 3; g++) {
            TunnelLamps x = Twins.made(Twins::full);
            TunnelLamps y = Twins.made(Twins::full);
            for (int n = 1; n <= 200; n++) {
                y.hours(1);
                Check.equal("gallery " + g + " behind " + n, y.galleryOf(g, 0), x.depthIn(g, n));
            }
        }
    }

    private static void doneNow() {
        Check.equal("a new object", 0, new TunnelLamps().doneIn());
        TunnelLamps x = galleries(9);
        x.lamp(0, 0, 1, 0);
        x.fill(0, 1);
        x.hours(1);
        Check.equal("done", 0, x.doneIn());
        x.fill(0, 1);
        x.drop(0);
        Check.equal("dropped", 0, x.doneIn());
    }

    private static void doneWithoutStep() {
        TunnelLamps x = galleries(9);
        x.lamp(0, 0, 1, 0);
        x.lamp(0, 1, 1, 0);
        x.set(0, 0);
        for (int k = 0; k < 5; k++) {
            x.fill(0, 1);
        }
        Check.equal("five without a step", 1, x.doneIn());
        x.hang(1, 0, 1);
        x.set(0, 1);
        Check.equal("one step", 1, x.doneIn());
    }

    /** Orders of so many steps, one in an hour. */
    private static TunnelLamps doneBehind(int steps) {
        TunnelLamps x = galleries(60);
        x.lamp(0, 50, 1, 0);
        x.set(0, 1);
        x.hang(0, 0, 0);
        x.hang(0, 0, 50);
        x.hang(0, 0, 200 - steps);
        Check.equal("steps", steps, x.lad(3));
        return x;
    }

    private static void doneFarAhead() {
        Check.equal("199", 199, doneBehind(199).doneIn());
        Check.equal("200", 200, doneBehind(200).doneIn());
        TunnelLamps x = doneBehind(200);
        x.hang(0, 0, 1);
        Check.equal("201", NONE, x.doneIn());
        x.hours(1);
        Check.equal("201, an hour later", 200, x.doneIn());
        x.set(0, 12);
        Check.equal("200 by twelve", 17, x.doneIn());
    }

    private static void doneAsIfHeDidNotKnow() {
        TunnelLamps x = galleries(9, 9);
        x.miner(0, 1);
        x.lamp(0, 0, 1, 90);
        x.lamp(1, 8, 1, 90);
        x.set(1, 1);
        x.set(0, 8);
        Check.equal("none now", 0, x.doneIn());
        x.hang(1, 1, 7);
        Check.equal("eight steps and one", 2, x.doneIn());
        x.hours(2);
        Check.equal("he has given himself one", 1, x.about(10));
        Check.equal("setting 1 is what it was", 1, x.set(1, 1));
    }

    private static void doneNever() {
        TunnelLamps x = galleries(9);
        x.lamp(0, 0, 1, 0);
        x.set(0, 0);
        x.hang(0, 0, 1);
        Check.equal("no step", NONE, x.doneIn());
        x.set(0, 1);
        Check.equal("one step", 1, x.doneIn());
    }

    private static int dugBy(TunnelLamps x, int n) {
        int dug = 0;
        for (int left = n; left > 0; left -= 60) {
            dug += x.hours(Math.min(60, left));
        }
        return dug;
    }

    /** Of the dug cells the greatest with which most is dug, each tried on a mine of its own. */
    private static int tried(Twins.Setup setup, int l, int g, int n) {
        int best = NONE;
        int most = NONE;
        int depth = Twins.made(setup).galleryOf(g, 0);
        for (int cell = 0; cell < depth; cell++) {
            TunnelLamps x = Twins.made(setup);
            x.hang(l, g, cell);
            int dug = dugBy(x, n);
            if (dug >= most) {
                most = dug;
                best = cell;
            }
        }
        return best;
    }

    private static void likeMine(TunnelLamps x, int kind) {
        x.gallery(7 + kind % 9);
        x.gallery(4 + kind % 5);
        x.miner(0, 1 + kind % 5);
        x.miner(1, 1 + kind % 4);
        x.lamp(0, kind % 4, 1 + kind % 5, 99);
        x.lamp(1, 0, 2 + kind % 3, 70);
        x.set(0, 1 + kind % 4);
        x.set(1, kind % 2);
    }

    private static void bestAmounts() {
        for (int kind = 0; kind < 6; kind++) {
            int mine = kind;
            Twins.Setup setup = x -> likeMine(x, mine);
            for (int n = 1; n <= 100; n += n < 40 || n > 90 ? 1 : 7) {
                for (int l = 0; l < 2; l++) {
                    Check.equal("kind " + kind + ", lamp " + l + ", n " + n, tried(setup, l, l, n),
                            Twins.made(setup).bestCell(l, l, n));
                }
            }
        }
    }

    private static void bestOfSeveral() {
        TunnelLamps x = galleries(5, 9);
        x.lamp(0, 4, 2, 90);
        Check.equal("nothing is dug", 4, x.bestCell(0, 0, 100));
        Check.equal("nothing is dug, another gallery", 8, x.bestCell(0, 1, 1));
        x.set(0, 12);
        x.miner(0, 1);
        x.lamp(0, 4, 9, 99);
        Check.equal("lit by another one, all are alike", 4, x.bestCell(0, 0, 100));
        Check.equal("all are alike there too", 8, x.bestCell(0, 1, 100));
        TunnelLamps y = galleries(9);
        y.lamp(0, 8, 3, 99);
        y.miner(0, 1);
        y.set(0, 0);
        Check.equal("no step", 8, y.bestCell(0, 0, 100));
    }

    private static void bestOfOneAndSixty() {
        TunnelLamps x = galleries(1, 60);
        x.lamp(0, 0, 1, 9);
        for (int n : new int[] {1, 100}) {
            Check.equal("one cell", 0, x.bestCell(0, 0, n));
            Check.equal("sixty cells", 59, x.bestCell(0, 1, n));
        }
        TunnelLamps y = galleries(8);
        y.lamp(0, 7, 9, 99);
        y.miner(0, 5);
        Check.equal("cells that are not dug now are none", 7, y.bestCell(0, 0, 100));
    }

    private static void bestAsByHours() {
        boolean[] isAnswer = new boolean[60];
        for (int kind = 0; kind < 40; kind++) {
            int mine = kind;
            Twins.Setup setup = x -> likeMine(x, mine);
            for (int l = 0; l < 2; l++) {
                for (int g = 0; g < 2; g++) {
                    int due = tried(setup, l, g, 30);
                    Check.equal("kind " + kind + ", " + l + ", " + g, due, Twins.made(setup).bestCell(l, g, 30));
                    isAnswer[due] = true;
                }
            }
        }
        for (int cell = 4; cell < 12; cell++) {
            Check.equal("the answer " + cell + " is among them", 1, isAnswer[cell] ? 1 : 0);
        }
    }

    /** The sooner the lad has hung the one, in a gallery without a miner, the sooner he brings the other to the face. */
    private static void bestInAllGalleries() {
        TunnelLamps x = galleries(9, 30);
        x.miner(0, 5);
        x.lamp(1, 0, 1, 0);
        x.lamp(0, 2, 4, 99);
        x.set(1, 1);
        Check.equal("most is dug in the other gallery", 0, x.bestCell(0, 1, 5));
        Check.equal("as much, wherever it hangs", 29, x.bestCell(0, 1, 4));
    }

    private static Twins.Setup withOrders(int many) {
        return x -> {
            Twins.busy(x);
            for (int k = 3; k <= many; k++) {
                Check.equal("orders", k, k % 2 == 0 ? x.hang(0, 0, 8) : x.fill(0, 1));
            }
        };
    }

    private static void bestBehindFive() {
        Twins.Setup setup = x -> {
            x.gallery(9);
            x.gallery(9);
            x.miner(0, 1);
            x.lamp(0, 8, 2, 99);
            x.lamp(1, 3, 3, 99);
            x.hang(0, 1, 8);
            x.hang(1, 0, 2);
            x.hang(0, 1, 0);
            x.hang(1, 0, 1);
            x.hang(1, 1, 5);
        };
        for (int n : new int[] {5, 10, 20, 30, 60, 100}) {
            for (int l = 0; l < 2; l++) {
                Check.equal("lamp " + l + ", n " + n, tried(setup, l, 0, n), Twins.made(setup).bestCell(l, 0, n));
            }
        }
    }

    private static void bestNoSuch() {
        Twins.refusedOutside("lamp", 0, 1, Check.NO_SUCH, Twins::busy, (x, l) -> x.bestCell(l, 0, 1));
        Twins.refusedOutside("gallery", 0, 1, Check.NO_SUCH, Twins::busy, (x, g) -> x.bestCell(1, g, 1));
        Twins.refused("no lamp at all", Check.NO_SUCH, x -> x.gallery(5), x -> x.bestCell(0, 0, 1));
        Twins.refused("nothing at all", Check.NO_SUCH, x -> x.store(5), x -> x.bestCell(0, 0, 1));
    }

    private static void stepsAnswered() {
        TunnelLamps x = galleries(60, 60, 1);
        int[][] due = {{0, 0, 0, 0, 0}, {0, 59, 0, 59, 0}, {0, 0, 0, 59, 59}, {0, 59, 0, 0, 59}, {0, 59, 1, 59, 118},
            {1, 59, 0, 59, 118}, {0, 30, 1, 30, 60}, {2, 0, 1, 59, 59}, {1, 59, 2, 0, 59}, {2, 0, 0, 0, 0},
            {1, 1, 0, 1, 2}, {1, 1, 1, 2, 1}};
        for (int[] row : due) {
            Check.equal("steps", row[4], x.steps(row[0], row[1], row[2], row[3]));
        }
    }

    private static void stepsNoSuch() {
        Twins.refusedOutside("gallery", 0, 1, Check.NO_SUCH, Twins::busy, (x, g) -> x.steps(g, 0, 0, 0));
        Twins.refusedOutside("cell", 0, 8, Check.NO_SUCH, Twins::busy, (x, c) -> x.steps(0, c, 0, 0));
        Twins.refusedOutside("gallery 2", 0, 1, Check.NO_SUCH, Twins::busy, (x, g) -> x.steps(0, 0, g, 0));
        Twins.refusedOutside("cell 2", 0, 11, Check.NO_SUCH, Twins::busy, (x, c) -> x.steps(0, 0, 1, c));
        Twins.refused("the cell of another gallery", Check.NO_SUCH, Twins::busy, x -> x.steps(0, 9, 1, 9));
        Twins.refused("no gallery at all", Check.NO_SUCH, x -> x.store(5), x -> x.steps(0, 0, 0, 0));
    }
}
