import java.util.List;

/** Edges of the terms that tell of the lad: his steps, his orders, the mouth. */
final class EdgeLadTests {
    private static final int NONE = TunnelLamps.NONE;
    private static final String KIND_0 = "kind 0, to hang a lamp in a cell: he goes to the cell where it hangs, takes it,"
            + " goes to the other cell, and hangs it there; then the order is done.";
    private static final String FETCHES = "he goes to the mouth, and takes n of the oil in the store, or all if there is"
            + " less";
    private static final String POURS = "then he goes to the cell where the lamp hangs, and pours it in; what is above 99"
            + " there is spilled; then the order is done.";
    private static final String MOUTH = "At the mouth he counts as standing in the gallery from which he came, until he"
            + " goes on to a cell of another one, or is to take, hang or fill a lamp in the cell 0 of that.";

    private EdgeLadTests() { }

    static void addTo(List<Check.Test> tests) {
        Sentences lad = new Sentences(tests, "THE LAD");
        lad.test("The lad stands in a cell of a gallery, at first in the cell 0 of the gallery 0.", EdgeLadTests::atFirst);
        lad.test("The cells 0 of all galleries are side by side at the mouth: from one to another it is no step",
                EdgeLadTests::sideBySide);
        lad.test("to go from a cell to another one of the same gallery takes as many steps as their numbers differ",
                EdgeLadTests::inOneGallery);
        lad.test("from a cell of one gallery to a cell of another one both numbers together, by way of the mouth.",
                EdgeLadTests::overTheMouth);
        lad.test("He has at most 6 orders", EdgeLadTests::mostOrders);
        lad.test("which he follows one after the other.", EdgeLadTests::oneAfterTheOther);
        lad.test(KIND_0, "where he stands, into the same cell", EdgeLadTests::hangWhereItHangs);
        lad.test(KIND_0, "a lamp that an earlier order has moved", EdgeLadTests::hangMovedLamp);
        lad.test(KIND_0, "a lamp without oil, into the last dug cell", EdgeLadTests::hangEmptyLamp);
        lad.test(FETCHES, "one more, as much, one less, none", EdgeLadTests::fetchesAllOrSome);
        lad.test(FETCHES, "of the oil that is there when he is", EdgeLadTests::fetchesWhenThere);
        lad.test(FETCHES, "none, and he goes on to the lamp", EdgeLadTests::fetchesNone);
        lad.test(POURS, "just full, and one more", EdgeLadTests::pours);
        lad.test(POURS, "into a full one", EdgeLadTests::poursIntoFull);
        lad.test(POURS, "into a lamp that an earlier order has moved", EdgeLadTests::poursIntoMoved);
        lad.test("Taking, hanging and pouring are no steps.", EdgeLadTests::noSteps);
        lad.test(MOUTH, "he came from there", EdgeLadTests::cameFrom);
        lad.test(MOUTH, "he goes on", EdgeLadTests::goesOn);
        lad.test(MOUTH, "he takes a lamp", EdgeLadTests::takesAtMouth);
        lad.test(MOUTH, "he hangs a lamp", EdgeLadTests::hangsAtMouth);
        lad.test(MOUTH, "he fills a lamp", EdgeLadTests::fillsAtMouth);
        lad.test(MOUTH, "the oil in the store is in no gallery", EdgeLadTests::fetchesAtMouth);
    }

    private static TunnelLamps galleries(int... depths) {
        TunnelLamps x = new TunnelLamps();
        for (int depth : depths) {
            x.gallery(depth);
        }
        return x;
    }

    private static void stands(String when, int gallery, int cell, int lamp, TunnelLamps x) {
        Check.equal("gallery " + when, gallery, x.lad(0));
        Check.equal("cell " + when, cell, x.lad(1));
        Check.equal("lamp " + when, lamp, x.lad(2));
    }

    private static void atFirst() {
        stands("without galleries", 0, 0, NONE, new TunnelLamps());
        TunnelLamps x = galleries(60, 60, 60);
        stands("with galleries", 0, 0, NONE, x);
        x.hours(60);
        stands("without an order", 0, 0, NONE, x);
    }

    private static void sideBySide() {
        TunnelLamps x = galleries(1, 60, 1);
        for (int g = 0; g < 3; g++) {
            for (int g2 = 0; g2 < 3; g2++) {
                Check.equal("from " + g + " to " + g2, 0, x.steps(g, 0, g2, 0));
            }
        }
        x.set(0, 0);
        x.lamp(1, 0, 1, 0);
        x.hang(0, 2, 0);
        x.hang(0, 0, 0);
        Check.equal("steps of the lad", 0, x.lad(3));
        x.hours(1);
        Check.equal("done without a step", 0, x.about(10));
        Check.equal("the lamp", 0, x.lampOf(0, 2));
    }

    private static void inOneGallery() {
        TunnelLamps x = galleries(60);
        Check.equal("forwards", 59, x.steps(0, 0, 0, 59));
        Check.equal("backwards", 59, x.steps(0, 59, 0, 0));
        Check.equal("to the next one", 1, x.steps(0, 59, 0, 58));
        Check.equal("to the same one", 0, x.steps(0, 59, 0, 59));
        x.lamp(0, 59, 1, 0);
        x.hang(0, 0, 58);
        x.set(0, 1);
        x.hours(58);
        stands("a step before", 0, 58, NONE, x);
        x.hours(1);
        stands("there", 0, 59, 0, x);
        x.hours(1);
        stands("hung", 0, 58, NONE, x);
    }

    private static void overTheMouth() {
        TunnelLamps x = galleries(60, 60, 2);
        Check.equal("the farthest", 118, x.steps(0, 59, 1, 59));
        Check.equal("the same number", 2, x.steps(2, 1, 1, 1));
        Check.equal("from the mouth", 59, x.steps(2, 0, 1, 59));
        Check.equal("to the mouth", 59, x.steps(1, 59, 2, 0));
        x.lamp(0, 1, 1, 0);
        x.hang(0, 1, 1);
        x.set(0, 1);
        x.hours(1);
        stands("taken", 0, 1, 0, x);
        x.hours(1);
        stands("at the mouth", 0, 0, 0, x);
        x.hours(1);
        stands("hung", 1, 1, NONE, x);
    }

    private static void mostOrders() {
        TunnelLamps x = galleries(9);
        x.lamp(0, 0, 1, 9);
        Check.refused("none", x, Check.NO_SUCH, () -> x.orderOf(0, 0));
        for (int k = 1; k <= 6; k++) {
            Check.equal("order " + k, k, k % 2 == 0 ? x.hang(0, 0, 8) : x.fill(0, 1));
        }
        Check.refused("a seventh, to hang", x, Check.NOT_POSSIBLE, () -> x.hang(0, 0, 8));
        Check.refused("a seventh, to fill", x, Check.NOT_POSSIBLE, () -> x.fill(0, 1));
        x.set(0, 0);
        x.hours(1);
        Check.equal("the first is done", 5, x.about(10));
        Check.equal("the sixth once more", 6, x.fill(0, 99));
        Check.equal("it is the last one", 99, x.orderOf(5, 2));
        Check.refused("a seventh", x, Check.NOT_POSSIBLE, () -> x.fill(0, 1));
    }

    private static void oneAfterTheOther() {
        TunnelLamps x = galleries(9);
        x.lamp(0, 5, 1, 0);
        x.lamp(0, 0, 1, 0);
        x.store(9);
        x.hang(0, 0, 6);
        x.fill(1, 4);
        x.hours(1);
        Check.equal("the second could be done without a step", 0, x.lampOf(1, 1));
        x.hours(1);
        Check.equal("the first is done", 1, x.about(10));
        Check.equal("the second is followed", 1, x.orderOf(0, 0));
        x.hours(1);
        Check.equal("the second is done", 4, x.lampOf(1, 1) + x.about(10));
    }

    private static void hangWhereItHangs() {
        TunnelLamps x = galleries(9);
        x.lamp(0, 0, 1, 9);
        x.set(0, 0);
        x.hang(0, 0, 0);
        Check.equal("no step", 0, x.lad(3));
        x.hours(1);
        Check.equal("done", 0, x.about(10));
        Check.equal("it hangs there again", 0, x.lampOf(0, 3));
        stands("then", 0, 0, NONE, x);
        x.lamp(0, 8, 1, 9);
        x.set(0, 8);
        x.hang(1, 0, 8);
        Check.equal("steps", 8, x.lad(3));
        x.hours(1);
        Check.equal("done, far from the mouth", 0, x.about(10));
        Check.equal("it hangs there again", 8, x.lampOf(1, 3));
    }

    private static void hangMovedLamp() {
        TunnelLamps x = galleries(9, 9);
        x.lamp(0, 1, 1, 9);
        x.hang(0, 1, 1);
        x.hang(0, 1, 2);
        Check.equal("steps", 1 + 2 + 1, x.lad(3));
        x.hours(1);
        Check.equal("done", 0, x.about(10));
        Check.equal("gallery", 1, x.lampOf(0, 2));
        Check.equal("cell", 2, x.lampOf(0, 3));
        stands("then", 1, 2, NONE, x);
    }

    private static void hangEmptyLamp() {
        TunnelLamps x = galleries(60);
        x.lamp(0, 0, 1, 0);
        x.hang(0, 0, 59);
        x.hours(14);
        Check.equal("not yet", 1, x.about(10));
        x.hours(1);
        Check.equal("done", 0, x.about(10));
        Check.equal("the last dug cell", 59, x.lampOf(0, 3));
        Check.equal("it is empty still", 0, x.lampOf(0, 1));
    }

    /** An hour in which a lamp at the mouth is filled, with so much in the store. */
    private static TunnelLamps filled(int oil, int store, int n) {
        TunnelLamps x = galleries(1);
        x.lamp(0, 0, 1, oil);
        x.store(store);
        x.fill(0, n);
        x.hours(1);
        Check.equal("done", 0, x.about(10));
        Check.equal("he carries none", 0, x.about(6));
        return x;
    }

    private static void hasThen(String name, int oil, int store, int spilled, TunnelLamps x) {
        Check.equal("the lamp, " + name, oil, x.lampOf(0, 1));
        Check.equal("the store, " + name, store, x.about(4));
        Check.equal("spilled, " + name, spilled, x.about(8));
    }

    private static void fetchesAllOrSome() {
        hasThen("one more", 99, 1, 0, filled(0, 100, 99));
        hasThen("as much", 99, 0, 0, filled(0, 99, 99));
        hasThen("one less", 98, 0, 0, filled(0, 98, 99));
        hasThen("1 of 2", 1, 1, 0, filled(0, 2, 1));
        hasThen("1 of 1", 1, 0, 0, filled(0, 1, 1));
        hasThen("none, n is 1", 0, 0, 0, filled(0, 0, 1));
        hasThen("none, n is 99", 49, 0, 0, filled(50, 0, 99));
        TunnelLamps x = galleries(9);
        x.lamp(0, 4, 1, 0);
        x.store(7);
        x.fill(0, 8);
        x.set(0, 3);
        x.hours(1);
        Check.equal("he carries all", 7, x.about(6));
        Check.equal("the order is as it was", 8, x.orderOf(0, 2));
        x.store(5);
        x.hours(1);
        hasThen("what came later", 7, 5, 0, x);
    }

    private static void fetchesWhenThere() {
        TunnelLamps x = galleries(9);
        x.lamp(0, 4, 1, 0);
        x.hang(0, 0, 4);
        x.hours(1);
        x.fill(0, 8);
        x.set(0, 3);
        x.hours(1);
        stands("a step before the mouth", 0, 1, NONE, x);
        Check.equal("no oil yet", 0, x.about(6));
        x.store(9);
        x.hours(1);
        Check.equal("brought just before", 8, x.about(6));
        Check.equal("left", 1, x.about(4));
    }

    private static void fetchesNone() {
        TunnelLamps x = galleries(9);
        x.lamp(0, 5, 1, 0);
        x.fill(0, 8);
        x.hours(1);
        stands("on his way", 0, 4, NONE, x);
        Check.equal("one step more", 1, x.lad(3));
        x.store(9);
        x.save(0);
        x.hours(1);
        Check.equal("the order is done", 0, x.about(10));
        hasThen("what came too late", 0, 9, 0, x);
        x.restore(0);
        Check.equal("one step more", 1, x.lad(3));
        x.hours(1);
        x.undo();
        Check.equal("one step more", 1, x.lad(3));
        Check.equal("an hour more", 1, x.doneIn());
    }

    private static void pours() {
        hasThen("just full", 99, 0, 0, filled(1, 99, 99));
        hasThen("one is spilled", 99, 0, 1, filled(2, 99, 99));
        hasThen("98 are spilled", 99, 0, 98, filled(99, 99, 99));
        hasThen("just full by one", 99, 0, 0, filled(99, 1, 1));
        hasThen("of two one is spilled", 99, 0, 1, filled(99, 2, 2));
    }

    private static void poursIntoFull() {
        TunnelLamps x = galleries(1);
        x.lamp(0, 0, 1, 99);
        x.store(101);
        x.fill(0, 1);
        x.fill(0, 1);
        x.fill(0, 99);
        x.hours(1);
        hasThen("all but the first are spilled", 99, 0, 100, x);
        Check.equal("done", 0, x.about(10));
        Check.equal("the accounts", x.about(9), x.about(4) + x.about(5) + x.about(6) + x.about(7) + x.about(8));
    }

    private static void poursIntoMoved() {
        TunnelLamps x = galleries(9, 9);
        x.lamp(0, 1, 1, 0);
        x.store(9);
        x.hang(0, 1, 2);
        x.fill(0, 9);
        Check.equal("steps", 1 + 3 + 2 + 2, x.lad(3));
        x.set(0, 8);
        x.hours(1);
        Check.equal("filled where it hangs now", 9, x.lampOf(0, 1));
        stands("then", 1, 2, NONE, x);
    }

    private static void noSteps() {
        TunnelLamps x = galleries(9);
        x.lamp(0, 2, 1, 0);
        x.store(9);
        x.hang(0, 0, 4);
        x.hours(1);
        Check.equal("taken and hung in four steps", 0, x.about(10));
        x.fill(0, 9);
        x.hours(1);
        Check.equal("fetched behind four steps", 9, x.about(6));
        x.hours(1);
        Check.equal("poured behind four steps", 9, x.lampOf(0, 1));
        Check.equal("done", 0, x.about(10));
    }

    /** The lad has come from the cell 2 of the gallery 1 to the mouth, for a lamp in the gallery 2, and has no order. */
    private static TunnelLamps backFromGalleryOne() {
        TunnelLamps x = galleries(9, 9, 9);
        x.lamp(1, 2, 1, 0);
        x.lamp(2, 0, 1, 0);
        x.lamp(2, 3, 1, 0);
        x.hang(0, 1, 2);
        x.set(0, 2);
        x.hours(1);
        stands("in 1", 1, 2, NONE, x);
        x.hang(2, 2, 4);
        x.hours(1);
        stands("back at the mouth", 1, 0, NONE, x);
        x.drop(0);
        return x;
    }

    private static void cameFrom() {
        TunnelLamps x = backFromGalleryOne();
        stands("without an order", 1, 0, NONE, x);
        x.hours(5);
        stands("later", 1, 0, NONE, x);
    }

    private static void goesOn() {
        TunnelLamps x = backFromGalleryOne();
        x.hang(2, 2, 8);
        stands("with an order alone", 1, 0, NONE, x);
        x.set(0, 0);
        x.hours(1);
        stands("without a step", 1, 0, NONE, x);
        x.set(0, 1);
        x.hours(1);
        stands("behind a step", 2, 1, NONE, x);
    }

    private static void takesAtMouth() {
        TunnelLamps x = backFromGalleryOne();
        x.set(0, 0);
        x.hang(1, 0, 8);
        x.hours(1);
        stands("with the lamp from the cell 0 of 2", 2, 0, 1, x);
        x.set(0, 1);
        x.hours(1);
        stands("gone on", 0, 1, 1, x);
    }

    private static void hangsAtMouth() {
        TunnelLamps x = backFromGalleryOne();
        x.set(0, 0);
        x.hang(1, 0, 0);
        x.hours(1);
        stands("taken in 2, hung in 0", 0, 0, NONE, x);
        x.hang(0, 2, 0);
        x.set(0, 4);
        x.hours(1);
        stands("brought from 1, hung in 2", 2, 0, NONE, x);
    }

    private static void fillsAtMouth() {
        TunnelLamps x = backFromGalleryOne();
        x.set(0, 0);
        x.store(3);
        x.fill(1, 3);
        x.hours(1);
        stands("the lamp in 2 is filled", 2, 0, NONE, x);
        Check.equal("oil", 3, x.lampOf(1, 1));
    }

    private static void fetchesAtMouth() {
        TunnelLamps x = backFromGalleryOne();
        x.set(0, 0);
        x.store(3);
        x.fill(2, 3);
        x.hours(1);
        Check.equal("fetched", 3, x.about(6));
        stands("for a lamp in 2", 1, 0, NONE, x);
    }
}
