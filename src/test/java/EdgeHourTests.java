import java.util.List;

/** Edges of the terms of an hour, step by step. */
final class EdgeHourTests {
    private static final int NONE = TunnelLamps.NONE;
    private static final String STROKES = "if the face of the gallery is lit, as it is now, the miner makes as many strokes"
            + " as the pace";
    private static final String DIGS = "as long as the strokes made at the face are at least those that its cell takes,"
            + " and the depth is below 60, they become less by those, and the gallery is dug by a cell.";
    private static final String STEPS = "Then, as often as setting 0 tells, as long as he has an order: he makes a step,"
            + " and does all that needs no step.";
    private static final String WHERE = "of the galleries with a miner whose face is not lit, whose depth is above 1 and"
            + " below 60, and in which a lamp that burns hangs in a cell below d - 1, the lowest one";
    private static final String WHICH = "he gets an order to hang the lamp there with the most oil, of several the lowest,"
            + " of those that burn and hang below d - 1, in the cell d - 1.";

    private EdgeHourTests() { }

    static void addTo(List<Check.Test> tests) {
        Sentences hour = new Sentences(tests, "AN HOUR");
        hour.test("The time (0 at first) becomes 1 more.", EdgeHourTests::time);
        hour.test("Each miner, by number, if the depth is below 60", "59 and 60", EdgeHourTests::depthBelowSixty);
        hour.test("Each miner, by number, if the depth is below 60", "by number", EdgeHourTests::byNumber);
        hour.test(STROKES, "the slowest and the fastest", EdgeHourTests::strokesOfTheMiner);
        hour.test(STROKES, "as it is now", EdgeHourTests::faceAsItIsNow);
        hour.test(STROKES, "the last hour of a lamp", EdgeHourTests::lastOilLights);
        hour.test(DIGS, "as many strokes, one less, one more", EdgeHourTests::strokesOfTheCell);
        hour.test(DIGS, "two cells at once", EdgeHourTests::twoCellsAtOnce);
        hour.test(DIGS, "the last cell", EdgeHourTests::lastCell);
        hour.test("If it is not lit, the miner has an hour in the dark.", EdgeHourTests::inTheDark);
        hour.test("Each lamp that burns has 1 oil less.", EdgeHourTests::burnsOneOil);
        hour.test("The lad does all that needs no step, by his orders.", EdgeHourTests::needsNoStep);
        hour.test(STEPS, "none, one, twelve", EdgeHourTests::steps);
        hour.test(STEPS, "no order left", EdgeHourTests::noOrderLeft);
        hour.test(STEPS, "behind the last step", EdgeHourTests::behindTheLastStep);
        hour.test("If setting 1 is 1, and the lad has no order", "the setting", EdgeHourTests::settingOne);
        hour.test("If setting 1 is 1, and the lad has no order", "an order", EdgeHourTests::hasNoOrder);
        hour.test(WHERE, "with a miner", EdgeHourTests::withMiner);
        hour.test(WHERE, "not lit", EdgeHourTests::faceNotLit);
        hour.test(WHERE, "above 1", EdgeHourTests::depthAboveOne);
        hour.test(WHERE, "below 60", EdgeHourTests::depthBelowSixtyForLad);
        hour.test(WHERE, "that burns", EdgeHourTests::lampThatBurns);
        hour.test(WHERE, "below d - 1", EdgeHourTests::belowTheLastCell);
        hour.test(WHERE, "the lowest one", EdgeHourTests::lowestGallery);
        hour.test(WHICH, "the most oil, of several the lowest", EdgeHourTests::mostOil);
        hour.test(WHICH, "those there", EdgeHourTests::lampsThere);
        hour.test(WHICH, "in the cell d - 1", EdgeHourTests::cellBeforeTheFace);
        hour.test(WHICH, "he makes no step for it in this hour", EdgeHourTests::noStepYet);
    }

    private static TunnelLamps galleries(int... depths) {
        TunnelLamps x = new TunnelLamps();
        for (int depth : depths) {
            x.gallery(depth);
        }
        return x;
    }

    private static void time() {
        TunnelLamps x = new TunnelLamps();
        Check.equal("at first", 0, x.about(3));
        x.hours(1);
        Check.equal("an hour", 1, x.about(3));
        x.hours(60);
        Check.equal("sixty more", 61, x.about(3));
        x.store(1);
        Check.equal("no hour", 61, x.about(3));
    }

    private static void minerHas(String name, int strokes, int dark, TunnelLamps x, int m) {
        Check.equal("strokes, " + name, strokes, x.minerOf(m, 2));
        Check.equal("in the dark, " + name, dark, x.minerOf(m, 3));
    }

    private static void depthBelowSixty() {
        TunnelLamps x = galleries(59, 60, 60);
        x.lamp(1, 59, 9, 99);
        for (int g = 0; g < 3; g++) {
            x.miner(g, 2);
        }
        x.hours(1);
        minerHas("59, dark", 0, 1, x, 0);
        minerHas("60, lit", 0, 0, x, 1);
        minerHas("60, dark", 0, 0, x, 2);
        x.lamp(0, 58, 1, 9);
        x.hours(1);
        minerHas("59, lit", 2, 1, x, 0);
        Check.equal("strokes at the face of 60", 0, x.galleryOf(1, 1));
        Check.equal("hours in the dark", 1, x.about(11));
    }

    private static void byNumber() {
        TunnelLamps x = galleries(6);
        x.lamp(0, 5, 1, 9);
        x.miner(0, 2);
        x.miner(0, 1);
        x.miner(0, 5);
        x.miner(0, 4);
        Check.equal("the cell 6 takes three", 1, x.hours(1));
        minerHas("the first", 2, 0, x, 0);
        minerHas("the second", 1, 0, x, 1);
        minerHas("the third", 0, 1, x, 2);
        minerHas("the fourth", 0, 1, x, 3);
    }

    private static void strokesOfTheMiner() {
        TunnelLamps x = galleries(11, 11);
        x.lamp(0, 10, 1, 9);
        x.lamp(1, 10, 1, 9);
        x.miner(0, 1);
        x.miner(1, 5);
        x.hours(1);
        minerHas("the slowest", 1, 0, x, 0);
        minerHas("the fastest", 5, 0, x, 1);
        Check.equal("at the face 0", 1, x.galleryOf(0, 1));
        Check.equal("at the face 1", 5, x.galleryOf(1, 1));
    }

    private static void faceAsItIsNow() {
        TunnelLamps x = galleries(6, 5);
        x.lamp(0, 5, 2, 9);
        x.miner(0, 3);
        x.miner(0, 4);
        x.miner(0, 1);
        Check.equal("two cells, of three and four strokes", 2, x.hours(1));
        minerHas("behind both", 0, 1, x, 2);
        x.set(0, 12);
        x.lamp(1, 0, 5, 9);
        x.hang(1, 1, 4);
        x.miner(1, 1);
        x.hours(1);
        minerHas("lit before the lad moves the lamp", 1, 0, x, 3);
        x.hang(1, 0, 0);
        x.hours(1);
        minerHas("lit before the lad takes the lamp", 2, 0, x, 3);
        x.hours(1);
        minerHas("dark then", 2, 1, x, 3);
    }

    private static void lastOilLights() {
        TunnelLamps x = galleries(5);
        x.lamp(0, 4, 1, 1);
        x.miner(0, 5);
        x.hours(1);
        minerHas("the last oil", 5, 0, x, 0);
        x.hours(1);
        minerHas("no oil", 5, 1, x, 0);
    }

    /** How many cells are dug, and how many strokes are left, with the given strokes at the cell 8, which takes 5. */
    private static void digsTheCellEight(int first, int second, int dug, int left) {
        TunnelLamps x = galleries(8);
        x.lamp(0, 7, 9, 9);
        x.miner(0, first);
        x.miner(0, second);
        Check.equal("cells by " + (first + second), dug, x.hours(1));
        Check.equal("strokes left of " + (first + second), left, x.galleryOf(0, 1));
        Check.equal("depth", 8 + dug, x.galleryOf(0, 0));
        Check.equal("cells dug by miners", dug, x.about(12));
    }

    private static void strokesOfTheCell() {
        digsTheCellEight(1, 3, 0, 4);
        digsTheCellEight(1, 4, 1, 0);
        digsTheCellEight(2, 4, 1, 1);
        digsTheCellEight(5, 5, 1, 5);
    }

    /** The cell 5 takes 8 strokes, the cell 6 takes 3; the last miner makes the strokes that are told last. */
    private static void digsTheCellFive(int[] paces, int dug, int left) {
        TunnelLamps x = galleries(5);
        x.lamp(0, 4, 9, 9);
        for (int pace : paces) {
            x.miner(0, pace);
        }
        Check.equal("cells", dug, x.hours(1));
        Check.equal("strokes left", left, x.galleryOf(0, 1));
    }

    private static void twoCellsAtOnce() {
        digsTheCellFive(new int[] {5, 2, 3}, 1, 2);
        digsTheCellFive(new int[] {5, 1, 5}, 2, 0);
        digsTheCellFive(new int[] {5, 2, 5}, 2, 1);
        TunnelLamps x = galleries(5);
        x.lamp(0, 4, 1, 9);
        x.miner(0, 5);
        x.miner(0, 1);
        x.miner(0, 5);
        Check.equal("the second of them is not lit", 2, x.hours(1));
        minerHas("the third", 5, 0, x, 2);
    }

    private static void lastCell() {
        TunnelLamps x = galleries(59);
        x.lamp(0, 58, 9, 99);
        x.miner(0, 5);
        x.miner(0, 2);
        Check.equal("seven strokes of eight", 0, x.hours(1));
        x.miner(0, 4);
        Check.equal("the cell 59, and no cell 60", 1, x.hours(1));
        Check.equal("depth", 60, x.galleryOf(0, 0));
        Check.equal("strokes left, as many as a cell 60 would take and one", 4, x.galleryOf(0, 1));
        minerHas("the first", 10, 0, x, 0);
        minerHas("the second, behind the last cell", 2, 0, x, 1);
        minerHas("the third, behind the last cell", 0, 0, x, 2);
    }

    private static void inTheDark() {
        TunnelLamps x = galleries(3, 11);
        x.miner(0, 5);
        x.miner(1, 1);
        x.lamp(0, 1, 1, 99);
        x.lamp(1, 10, 1, 99);
        x.hours(2);
        minerHas("a cell too far from the lamp", 0, 2, x, 0);
        minerHas("lit", 2, 0, x, 1);
        Check.equal("hours of all", 2, x.about(11));
        Check.equal("strokes at the dark face", 0, x.galleryOf(0, 1));
        x.send(0, 1);
        x.hours(1);
        minerHas("sent into the light", 5, 2, x, 0);
    }

    private static void burnsOneOil() {
        TunnelLamps x = galleries(9);
        x.lamp(0, 0, 1, 2);
        x.lamp(0, 0, 1, 1);
        x.lamp(0, 0, 1, 0);
        x.lamp(0, 0, 1, 99);
        int[][] due = {{1, 0, 0, 98}, {0, 0, 0, 97}, {0, 0, 0, 96}};
        int[] burnt = {3, 5, 6};
        for (int hour = 0; hour < 3; hour++) {
            x.hours(1);
            for (int l = 0; l < 4; l++) {
                Check.equal("lamp " + l + " in hour " + hour, due[hour][l], x.lampOf(l, 1));
            }
            Check.equal("burnt in hour " + hour, burnt[hour], x.about(7));
        }
        x.set(0, 1);
        x.hang(3, 0, 8);
        x.hours(3);
        Check.equal("he carries it", 3, x.lad(2));
        Check.equal("it burns all the same", 93, x.lampOf(3, 1));
    }

    private static void needsNoStep() {
        TunnelLamps x = galleries(9, 9);
        x.set(0, 0);
        x.lamp(1, 0, 1, 0);
        x.store(50);
        x.fill(0, 9);
        x.hang(0, 0, 0);
        x.fill(0, 9);
        x.hang(0, 1, 0);
        x.fill(0, 9);
        x.hang(0, 0, 8);
        x.hours(1);
        Check.equal("all but the last", 1, x.about(10));
        Check.equal("filled three times", 27, x.lampOf(0, 1));
        Check.equal("taken for the last", 0, x.lad(2));
        x.hours(60);
        Check.equal("the cell", 0, x.lad(1));
        Check.equal("the last", 1, x.about(10));
    }

    private static void steps() {
        for (int steps : new int[] {0, 1, 12}) {
            TunnelLamps x = galleries(60);
            x.lamp(0, 59, 1, 0);
            x.hang(0, 0, 0);
            x.set(0, steps);
            x.hours(1);
            Check.equal("an hour", steps, x.lad(1));
            x.hours(3);
            Check.equal("four hours", 4 * steps, x.lad(1));
        }
    }

    private static void noOrderLeft() {
        TunnelLamps x = galleries(9);
        x.lamp(0, 1, 1, 0);
        x.hang(0, 0, 2);
        x.set(0, 12);
        x.hours(1);
        Check.equal("no step more than the order needs", 2, x.lad(1));
        x.hours(60);
        Check.equal("and none without an order", 2, x.lad(1));
    }

    private static void behindTheLastStep() {
        TunnelLamps x = galleries(9);
        x.lamp(0, 2, 1, 0);
        x.lamp(0, 4, 1, 0);
        x.hang(0, 0, 4);
        x.hang(1, 0, 4);
        x.hang(1, 0, 8);
        x.hours(1);
        Check.equal("hung behind the fourth step, and the next one", 1, x.about(10));
        Check.equal("and the one behind it is begun", 1, x.lad(2));
        Check.equal("hung", 4, x.lampOf(0, 3));
    }

    /** A gallery of each of the depths, and a miner in each; the lad knows by himself. */
    private static TunnelLamps known(int... depths) {
        TunnelLamps x = galleries(depths);
        for (int g = 0; g < depths.length; g++) {
            x.miner(g, 1);
        }
        x.set(1, 1);
        return x;
    }

    private static void getsNoOrder(String name, TunnelLamps x) {
        x.hours(1);
        Check.equal(name, 0, x.about(10));
    }

    private static void getsOrder(String name, int lamp, int gallery, int cell, TunnelLamps x) {
        x.hours(1);
        Check.equal("an order, " + name, 1, x.about(10));
        Check.equal("kind, " + name, 0, x.orderOf(0, 0));
        Check.equal("lamp, " + name, lamp, x.orderOf(0, 1));
        Check.equal("gallery, " + name, gallery, x.orderOf(0, 2));
        Check.equal("cell, " + name, cell, x.orderOf(0, 3));
    }

    private static void settingOne() {
        TunnelLamps x = known(9);
        x.lamp(0, 0, 1, 99);
        x.set(1, 0);
        getsNoOrder("setting 1 is 0", x);
        x.set(1, 1);
        getsOrder("setting 1 is 1", 0, 0, 8, x);
    }

    private static void hasNoOrder() {
        TunnelLamps x = known(9);
        x.lamp(0, 0, 1, 99);
        x.lamp(0, 1, 1, 0);
        x.set(0, 1);
        x.hang(1, 0, 2);
        x.hours(1);
        Check.equal("he has one", 1, x.about(10));
        Check.equal("it is that one", 1, x.orderOf(0, 1));
        getsOrder("it is done in this very hour", 0, 0, 8, x);
        x.hours(1);
        Check.equal("no second one", 1, x.about(10));
    }

    private static void withMiner() {
        TunnelLamps x = galleries(9, 9);
        x.set(1, 1);
        x.lamp(0, 0, 1, 99);
        getsNoOrder("no miner at all", x);
        x.miner(1, 1);
        getsNoOrder("a miner in another gallery", x);
        x.send(0, 0);
        getsOrder("a miner there", 0, 0, 8, x);
    }

    private static void faceNotLit() {
        TunnelLamps x = known(9);
        x.lamp(0, 5, 4, 3);
        getsNoOrder("lit as far as it reaches", x);
        x.lamp(0, 4, 4, 99);
        getsNoOrder("lit by one, not by the other", x);
        getsOrder("the one is burnt out", 1, 0, 8, x);
        TunnelLamps y = known(9);
        y.lamp(0, 4, 4, 99);
        getsOrder("a cell too far", 0, 0, 8, y);
    }

    private static void depthAboveOne() {
        TunnelLamps x = known(1);
        x.lamp(0, 0, 1, 1);
        getsNoOrder("the depth 1, dark", x);
        TunnelLamps y = known(2);
        y.lamp(0, 0, 2, 2);
        y.lamp(0, 0, 1, 99);
        getsNoOrder("the depth 2, lit", y);
        getsOrder("the depth 2, dark", 1, 0, 1, y);
        TunnelLamps z = galleries(1, 3);
        z.lamp(0, 0, 1, 99);
        z.lamp(1, 1, 1, 99);
        z.set(1, 1);
        z.miner(0, 4);
        getsOrder("dug from 1 to 2 in this hour", 0, 0, 1, z);
    }

    private static void depthBelowSixtyForLad() {
        TunnelLamps x = known(60);
        x.lamp(0, 50, 9, 99);
        getsNoOrder("the depth 60", x);
        TunnelLamps y = known(59);
        y.lamp(0, 49, 9, 99);
        getsOrder("the depth 59", 0, 0, 58, y);
        TunnelLamps z = known(59);
        for (int m = 0; m < 2; m++) {
            z.miner(0, 5);
        }
        z.lamp(0, 50, 9, 99);
        getsNoOrder("dug from 59 to 60 in this hour", z);
    }

    private static void lampThatBurns() {
        TunnelLamps x = known(9);
        x.lamp(0, 0, 1, 0);
        x.lamp(0, 0, 1, 1);
        getsNoOrder("no oil, and none behind this hour", x);
        x.lamp(0, 0, 1, 2);
        getsOrder("some oil behind this hour", 2, 0, 8, x);
    }

    private static void belowTheLastCell() {
        TunnelLamps x = known(9);
        x.lamp(0, 8, 1, 0);
        getsNoOrder("in the cell d - 1, without oil", x);
        x.lamp(0, 7, 1, 99);
        getsOrder("in the cell d - 2", 1, 0, 8, x);
        TunnelLamps y = known(9);
        y.lamp(0, 8, 1, 1);
        y.lamp(0, 0, 1, 9);
        getsOrder("the one in the cell d - 1 is burnt out", 1, 0, 8, y);
    }

    private static void lowestGallery() {
        TunnelLamps x = known(9, 8, 7);
        for (int g = 2; g >= 0; g--) {
            x.lamp(g, 0, 1, 50 + g);
        }
        getsOrder("all three", 2, 0, 8, x);
        x.drop(0);
        x.send(0, 1);
        getsOrder("the last two", 1, 1, 7, x);
        x.drop(0);
        x.send(0, 2);
        x.send(1, 2);
        getsOrder("the last one", 0, 2, 6, x);
    }

    private static void mostOil() {
        TunnelLamps x = known(9);
        x.lamp(0, 3, 1, 29);
        x.lamp(0, 2, 1, 30);
        x.lamp(0, 1, 1, 30);
        getsOrder("the first of the fullest", 1, 0, 8, x);
        x.drop(0);
        x.lamp(0, 0, 1, 30);
        getsOrder("the fullest", 3, 0, 8, x);
        x.drop(0);
        x.fill(0, 2);
        x.store(2);
        x.set(0, 6);
        getsOrder("the fullest, just filled up", 0, 0, 8, x);
    }

    private static void lampsThere() {
        TunnelLamps x = known(9, 9);
        x.lamp(1, 0, 1, 99);
        x.lamp(0, 8, 1, 1);
        x.lamp(0, 0, 1, 5);
        getsOrder("a fuller one hangs in another gallery", 2, 0, 8, x);
    }

    private static void cellBeforeTheFace() {
        TunnelLamps x = galleries(6);
        x.lamp(0, 5, 1, 50);
        x.set(1, 1);
        x.miner(0, 4);
        getsOrder("dug in this hour", 0, 0, 6, x);
        x.hours(2);
        Check.equal("hung there", 6, x.lampOf(0, 3));
        Check.equal("the face is lit", 1, x.galleryOf(0, 3));
    }

    private static void noStepYet() {
        TunnelLamps x = known(9);
        x.lamp(0, 0, 1, 50);
        getsOrder("at the mouth", 0, 0, 8, x);
        Check.equal("not even taken", NONE, x.lad(2));
        Check.equal("no step", 0, x.lad(1));
        x.hours(1);
        Check.equal("taken", 0, x.lad(2));
        Check.equal("four steps", 4, x.lad(1));
    }
}
