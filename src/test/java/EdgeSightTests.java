import java.util.List;
import java.util.function.IntUnaryOperator;

/** Edges of promises 6 to 12: what there is. */
final class EdgeSightTests {
    private static final int NONE = TunnelLamps.NONE;
    private static final String NO_GALLERY = "Throws IndexOutOfBoundsException if there is no such gallery";
    private static final String ABOUT = "what: 0: the galleries; 1: the miners; 2: the lamps; 3: the time; 4: the oil in the"
            + " store; 5: the oil in all lamps; 6: the oil that the lad carries; 7: the oil burnt so far; 8: the oil"
            + " spilled so far; 9: the oil that came so far, to the store and in new lamps; 10: the orders; 11: the hours"
            + " of miners in the dark so far; 12: the cells dug so far by miners";
    private static final String GALLERY_OF = "what: 0: its depth; 1: the strokes made at its face; 2: the strokes that the"
            + " cell of its face takes (with the depth 60 by the cell 60); 3: 1 if its face is lit, otherwise 0; 4: the"
            + " miners in it; 5: the lamps that hang in it";
    private static final String MINER_OF = "what: 0: the gallery; 1: the pace; 2: the strokes made so far; 3: the hours in"
            + " the dark so far";
    private static final String LAMP_OF = "what: 0: its reach; 1: its oil; 2: the gallery in which it hangs, NONE if it is"
            + " carried; 3: its cell, NONE likewise; 4: 1 if it burns, otherwise 0";
    private static final String LAD = "what: 0: the gallery where he stands (that of which he came last, at the mouth); 1:"
            + " the cell; 2: the lamp that he carries, or NONE; 3: the steps that he still has to make for all of his"
            + " orders, as they are now (a lamp that an earlier order hangs counts as there then)";
    private static final String ORDER_OF = "what: 0: its kind; 1: its lamp; 2: the gallery of the kind 0, n of the kind 1;"
            + " 3: the cell of the kind 0, NONE of the kind 1";

    private EdgeSightTests() { }

    static void addTo(List<Check.Test> tests) {
        Sentences about = new Sentences(tests, "Promise 6");
        about.test(ABOUT, "nothing", EdgeSightTests::aboutNothing);
        about.test(ABOUT, "as much as there may be", EdgeSightTests::aboutMost);
        about.test(ABOUT, "each by itself", EdgeSightTests::aboutEach);
        about.test(ABOUT, "a lamp that is carried", EdgeSightTests::aboutCarriedLamp);
        about.test(ABOUT, "what is taken back did not come", EdgeSightTests::aboutTakenBack);
        about.test("Throws IllegalArgumentException if what is not 0 to 12", () -> Twins.refusedOutside("what", 0, 12,
                Check.OUT_OF_RANGE, Twins::busy, TunnelLamps::about));
        addThings(tests);
        Sentences lad = new Sentences(tests, "Promise 10");
        lad.test(LAD, "no order, no lamp", EdgeSightTests::ladWithNothing);
        lad.test(LAD, "the lamps 0 and 7", EdgeSightTests::ladWithLamp);
        lad.test(LAD, "at the mouth", EdgeSightTests::ladAtMouth);
        lad.test(LAD, "no steps, and the most", EdgeSightTests::ladMostSteps);
        lad.test(LAD, "a lamp that an earlier order hangs", EdgeSightTests::ladStepsToMovedLamp);
        lad.test(LAD, "as they are now", EdgeSightTests::ladStepsAsTheyAreNow);
        lad.test("Throws IllegalArgumentException if what is not 0 to 3", () -> Twins.refusedOutside("what", 0, 3,
                Check.OUT_OF_RANGE, Twins::busyWithLamp, TunnelLamps::lad));
        addLit(tests);
    }

    private static void addThings(List<Check.Test> tests) {
        Sentences gallery = new Sentences(tests, "Promise 7");
        gallery.test(GALLERY_OF, "the least and the most", EdgeSightTests::galleryOfEdges);
        gallery.test(GALLERY_OF, "the depth 60", EdgeSightTests::galleryOfSixty);
        gallery.test(NO_GALLERY, () -> noSuch("gallery", 2, (x, g) -> x.galleryOf(g, 0), (x, g) -> x.galleryOf(g, 6)));
        gallery.test("Throws IllegalArgumentException if what is not 0 to 5", () -> Twins.refusedOutside("what", 0, 5,
                Check.OUT_OF_RANGE, Twins::busy, (x, what) -> x.galleryOf(1, what)));
        Sentences miner = new Sentences(tests, "Promise 8");
        miner.test(MINER_OF, EdgeSightTests::minerOfEdges);
        miner.test("Throws IndexOutOfBoundsException if there is no such miner",
                () -> noSuch("miner", 2, (x, m) -> x.minerOf(m, 0), (x, m) -> x.minerOf(m, -1)));
        miner.test("Throws IllegalArgumentException if what is not 0 to 3", () -> Twins.refusedOutside("what", 0, 3,
                Check.OUT_OF_RANGE, Twins::busy, (x, what) -> x.minerOf(1, what)));
        Sentences lamp = new Sentences(tests, "Promise 9");
        lamp.test(LAMP_OF, EdgeSightTests::lampOfEdges);
        lamp.test("Throws IndexOutOfBoundsException if there is no such lamp",
                () -> noSuch("lamp", 2, (x, l) -> x.lampOf(l, 0), (x, l) -> x.lampOf(l, 5)));
        lamp.test("Throws IllegalArgumentException if what is not 0 to 4", () -> Twins.refusedOutside("what", 0, 4,
                Check.OUT_OF_RANGE, Twins::busy, (x, what) -> x.lampOf(1, what)));
        Sentences order = new Sentences(tests, "Promise 11");
        order.test("k: which one, from 0 for the one that is followed", EdgeSightTests::orderOfPlaces);
        order.test(ORDER_OF, EdgeSightTests::orderOfEdges);
        order.test("Throws IndexOutOfBoundsException if there is no such order",
                () -> noSuch("order", 2, (x, k) -> x.orderOf(k, 0), (x, k) -> x.orderOf(k, 4)));
        order.test("Throws IllegalArgumentException if what is not 0 to 3", () -> Twins.refusedOutside("what", 0, 3,
                Check.OUT_OF_RANGE, Twins::busy, (x, what) -> x.orderOf(1, what)));
    }

    private static void addLit(List<Check.Test> tests) {
        Sentences lit = new Sentences(tests, "Promise 12");
        lit.test("way: 0: told cell by cell by the lamps; 1: told by what each lamp lights as a span, spans being joined",
                EdgeSightTests::litSpans);
        lit.test("Returns how many of its dug cells are lit (the same for both ways).", "none and all",
                EdgeSightTests::litNoneAndAll);
        lit.test("Returns how many of its dug cells are lit (the same for both ways).", "only dug ones",
                EdgeSightTests::litOnlyDug);
        lit.test(NO_GALLERY, () -> noSuch("gallery", 2, (x, g) -> x.lit(g, 0), (x, g) -> x.lit(g, 2)));
        lit.test("Throws IllegalArgumentException if way is neither 0 nor 1", () -> Twins.refusedOutside("way", 0, 1,
                Check.OUT_OF_RANGE, Twins::busy, (x, way) -> x.lit(0, way)));
    }

    /** A busy mine has so many of them, a new one none; with another bad argument it is thrown all the same. */
    private static void noSuch(String thing, int many, Twins.AskOne ask, Twins.AskOne askBadly) {
        Twins.refusedOutside(thing, 0, many - 1, Check.NO_SUCH, Twins::busy, ask);
        Twins.refusedOutside(thing + " and more", 0, many - 1, Check.NO_SUCH, Twins::busy, askBadly);
        Twins.refused("none at all", Check.NO_SUCH, x -> x.set(0, 4), x -> ask.of(x, 0));
        TunnelLamps x = Twins.made(Twins::busy);
        for (int number = 0; number < many; number++) {
            int there = number;
            Check.equal(thing + " " + there, 0, Check.outcome(() -> ask.of(x, there)).contains("Exception") ? 1 : 0);
        }
    }

    private static TunnelLamps galleries(int... depths) {
        TunnelLamps x = new TunnelLamps();
        for (int depth : depths) {
            x.gallery(depth);
        }
        return x;
    }

    private static void row(String name, int[] due, IntUnaryOperator look) {
        for (int what = 0; what < due.length; what++) {
            Check.equal(name + ", " + what, due[what], look.applyAsInt(what));
        }
    }

    private static void aboutNothing() {
        TunnelLamps x = new TunnelLamps();
        row("a new object", new int[13], x::about);
        x.hours(60);
        row("hours alone", new int[] {0, 0, 0, 60, 0, 0, 0, 0, 0, 0, 0, 0, 0}, x::about);
    }

    private static void aboutMost() {
        TunnelLamps x = galleries(60, 60, 60);
        for (int i = 0; i < 8; i++) {
            x.lamp(2, 59, 9, 99);
            if (i < 6) {
                x.miner(2, 5);
                x.fill(i, 99);
            }
        }
        for (int i = 0; i < 10; i++) {
            x.store(999);
        }
        x.store(9);
        row("as much as there may be", new int[] {3, 6, 8, 0, 9999, 792, 0, 0, 0, 10791, 6, 0, 0}, x::about);
        x.hours(1);
        row("an hour later", new int[] {3, 6, 8, 1, 9900, 784, 99, 8, 0, 10791, 6, 0, 0}, x::about);
    }

    private static void aboutEach() {
        TunnelLamps x = galleries(5, 9);
        x.miner(0, 5);
        x.miner(0, 5);
        x.miner(1, 1);
        x.lamp(0, 4, 2, 99);
        x.lamp(0, 0, 1, 2);
        x.lamp(1, 0, 9, 0);
        x.lamp(1, 1, 1, 40);
        x.store(100);
        x.fill(0, 30);
        x.fill(3, 20);
        x.set(0, 8);
        x.hours(1);
        row("in the first hour", new int[] {2, 3, 4, 1, 50, 139, 20, 3, 29, 241, 1, 1, 1}, x::about);
        x.hours(1);
        row("in the second hour", new int[] {2, 3, 4, 2, 50, 156, 0, 6, 29, 241, 0, 3, 3}, x::about);
    }

    private static void aboutCarriedLamp() {
        TunnelLamps x = galleries(9);
        x.lamp(0, 4, 1, 50);
        x.lamp(0, 0, 1, 20);
        x.hang(0, 0, 8);
        x.hours(1);
        Check.equal("he carries it", 0, x.lad(2));
        row("its oil is in a lamp still", new int[] {1, 0, 2, 1, 0, 68, 0, 2, 0, 70, 1, 0, 0}, x::about);
    }

    private static void aboutTakenBack() {
        TunnelLamps x = galleries(5);
        x.store(9);
        x.lamp(0, 0, 1, 30);
        x.undo();
        x.undo();
        row("taken back", new int[] {1, 0, 0, 0, 0, 0, 0, 0, 0, 0, 0, 0, 0}, x::about);
    }

    private static void galleryOfEdges() {
        TunnelLamps x = galleries(1, 9, 9);
        row("nothing in it", new int[] {1, 0, 4, 0, 0, 0}, what -> x.galleryOf(0, what));
        for (int i = 0; i < 8; i++) {
            x.lamp(2, 8, 1, i);
            if (i < 6) {
                x.miner(2, 1);
            }
        }
        row("all in it", new int[] {9, 0, 4, 1, 6, 8}, what -> x.galleryOf(2, what));
        x.send(5, 0);
        x.hang(7, 2, 0);
        x.set(0, 8);
        x.hours(1);
        row("a lamp is carried, the cells 9 and 10 take 4 and 5", new int[] {10, 0, 5, 0, 5, 7},
                what -> x.galleryOf(2, what));
        row("the miner who was sent", new int[] {1, 0, 4, 0, 1, 0}, what -> x.galleryOf(0, what));
    }

    private static void galleryOfSixty() {
        TunnelLamps x = galleries(60, 60, 60);
        x.lamp(0, 59, 1, 1);
        x.lamp(1, 51, 9, 1);
        x.lamp(2, 50, 9, 1);
        row("gallery 0", new int[] {60, 0, 3, 1, 0, 1}, what -> x.galleryOf(0, what));
        row("gallery 1", new int[] {60, 0, 8, 1, 0, 1}, what -> x.galleryOf(1, what));
        row("gallery 2", new int[] {60, 0, 7, 0, 0, 1}, what -> x.galleryOf(2, what));
    }

    private static void minerOfEdges() {
        TunnelLamps x = galleries(9, 9);
        x.lamp(1, 8, 9, 99);
        for (int m = 0; m < 6; m++) {
            x.miner(m % 2, m % 2 == 0 ? 1 : 5);
        }
        row("the first, new", new int[] {0, 1, 0, 0}, what -> x.minerOf(0, what));
        row("the last, new", new int[] {1, 5, 0, 0}, what -> x.minerOf(5, what));
        x.hours(1);
        row("the first, in the dark", new int[] {0, 1, 0, 1}, what -> x.minerOf(0, what));
        row("the last, in the light", new int[] {1, 5, 5, 0}, what -> x.minerOf(5, what));
        x.send(0, 1);
        x.hours(1);
        row("the first, sent", new int[] {1, 1, 1, 1}, what -> x.minerOf(0, what));
    }

    private static void lampOfEdges() {
        TunnelLamps x = galleries(1, 60);
        for (int l = 0; l < 7; l++) {
            x.lamp(0, 0, 1, 0);
        }
        x.lamp(1, 59, 9, 99);
        row("the least", new int[] {1, 0, 0, 0, 0}, what -> x.lampOf(0, what));
        row("the most", new int[] {9, 99, 1, 59, 1}, what -> x.lampOf(7, what));
        x.hang(0, 1, 1);
        x.set(0, 0);
        x.hours(1);
        row("carried, without oil", new int[] {1, 0, NONE, NONE, 0}, what -> x.lampOf(0, what));
        row("an hour later", new int[] {9, 98, 1, 59, 1}, what -> x.lampOf(7, what));
        x.set(0, 12);
        x.hours(1);
        x.hang(7, 0, 0);
        x.hours(5);
        row("carried, with oil", new int[] {9, 92, NONE, NONE, 1}, what -> x.lampOf(7, what));
        x.hours(5);
        row("in the cell 0", new int[] {9, 87, 0, 0, 1}, what -> x.lampOf(7, what));
        x.hours(60);
        x.hours(26);
        row("the last oil", new int[] {9, 1, 0, 0, 1}, what -> x.lampOf(7, what));
        x.hours(1);
        row("burnt out", new int[] {9, 0, 0, 0, 0}, what -> x.lampOf(7, what));
    }

    private static void ladWithNothing() {
        row("without galleries", new int[] {0, 0, NONE, 0}, new TunnelLamps()::lad);
        TunnelLamps x = galleries(60);
        x.lamp(0, 59, 1, 1);
        row("without orders", new int[] {0, 0, NONE, 0}, x::lad);
    }

    private static void ladWithLamp() {
        for (int l : new int[] {0, 7}) {
            TunnelLamps x = galleries(9);
            for (int i = 0; i < 8; i++) {
                x.lamp(0, 4, 1, 0);
            }
            x.hang(l, 0, 8);
            row("before", new int[] {0, 0, NONE, 8}, x::lad);
            x.hours(1);
            row("carries " + l, new int[] {0, 4, l, 4}, x::lad);
            x.hours(1);
            row("behind it", new int[] {0, 8, NONE, 0}, x::lad);
        }
    }

    private static void ladAtMouth() {
        TunnelLamps x = galleries(9, 9, 9);
        x.lamp(2, 4, 1, 0);
        x.hang(0, 1, 5);
        x.hours(2);
        row("came from 2", new int[] {2, 0, 0, 5}, x::lad);
        x.set(0, 5);
        x.hours(1);
        row("in 1", new int[] {1, 5, NONE, 0}, x::lad);
        x.hang(0, 0, 0);
        x.hours(1);
        row("hung in 0", new int[] {0, 0, NONE, 0}, x::lad);
    }

    private static void ladMostSteps() {
        TunnelLamps x = galleries(60, 60);
        for (int l = 0; l < 7; l++) {
            x.lamp(0, 59, 1, 0);
        }
        x.hang(6, 1, 59);
        Check.equal("from the mouth", 59 + 118, x.lad(3));
        x.set(0, 12);
        x.hours(15);
        Check.equal("none", 0, x.lad(3));
        for (int l = 0; l < 6; l++) {
            x.hang(l, 1, 59);
            Check.equal("from far end to far end", 236 * (l + 1), x.lad(3));
        }
        TunnelLamps y = galleries(1);
        y.lamp(0, 0, 1, 0);
        for (int k = 0; k < 6; k++) {
            y.fill(0, 1);
        }
        Check.equal("no step for any of six", 0, y.lad(3));
    }

    private static void ladStepsToMovedLamp() {
        TunnelLamps x = galleries(60, 60);
        x.lamp(0, 10, 1, 0);
        x.fill(0, 1);
        Check.equal("to the mouth and to it", 10, x.lad(3));
        x.hang(0, 1, 20);
        Check.equal("to the other gallery", 10 + 30, x.lad(3));
        x.fill(0, 1);
        Check.equal("to the mouth and to where it hangs then", 40 + 40, x.lad(3));
        x.hang(0, 1, 20);
        Check.equal("to where he stands then", 80, x.lad(3));
        x.hang(0, 1, 19);
        Check.equal("a cell back", 81, x.lad(3));
        Check.equal("it hangs where it hung", 10, x.lampOf(0, 3));
    }

    private static void ladStepsAsTheyAreNow() {
        TunnelLamps x = galleries(60, 60);
        x.lamp(0, 10, 1, 0);
        x.lamp(0, 20, 1, 0);
        x.store(9);
        x.hang(0, 1, 5);
        x.fill(1, 9);
        Check.equal("at first", 10 + 15 + 5 + 20, x.lad(3));
        x.set(0, 0);
        Check.equal("without steps in an hour as well", 50, x.lad(3));
        x.set(0, 12);
        x.hours(1);
        Check.equal("with the lamp", 13 + 25, x.lad(3));
        x.hours(2);
        Check.equal("with the oil, in the cell 6", 14, x.lad(3));
        x.hours(1);
        Check.equal("in the cell 18", 2, x.lad(3));
        x.set(1, 1);
        x.hours(1);
        Check.equal("all is done", 0, x.lad(3));
    }

    private static TunnelLamps sixOrders() {
        TunnelLamps x = galleries(1, 1, 60);
        for (int l = 0; l < 8; l++) {
            x.lamp(2, 59, 1, 0);
        }
        x.hang(0, 0, 0);
        x.fill(7, 99);
        x.hang(7, 2, 59);
        x.fill(0, 1);
        x.hang(3, 1, 0);
        x.fill(6, 50);
        return x;
    }

    private static void orderOfPlaces() {
        TunnelLamps x = sixOrders();
        int[] lamps = {0, 7, 7, 0, 3, 6};
        row("six of them", lamps, k -> x.orderOf(k, 1));
        x.drop(0);
        row("from the one that is followed", new int[] {7, 7, 0, 3, 6}, k -> x.orderOf(k, 1));
        Check.refused("the sixth", x, Check.NO_SUCH, () -> x.orderOf(5, 1));
        x.drop(4);
        row("without the last one", new int[] {7, 7, 0, 3}, k -> x.orderOf(k, 1));
    }

    private static void orderOfEdges() {
        TunnelLamps x = sixOrders();
        int[][] due = {{0, 0, 0, 0}, {1, 7, 99, NONE}, {0, 7, 2, 59}, {1, 0, 1, NONE}, {0, 3, 1, 0}, {1, 6, 50, NONE}};
        for (int k = 0; k < 6; k++) {
            int order = k;
            row("order " + k, due[k], what -> x.orderOf(order, what));
        }
    }

    private static void litBothWays(String name, int due, TunnelLamps x, int g) {
        Check.equal(name + ", by cells", due, x.lit(g, 0));
        Check.equal(name + ", by spans", due, x.lit(g, 1));
    }

    /** Hangs two lamps of the reach 2, so far apart as told, and then a third one that lights what both light. */
    private static void twoSpans(int apart, int due, int withThird) {
        TunnelLamps x = galleries(60);
        x.lamp(0, 20 + apart, 2, 9);
        x.lamp(0, 20, 2, 9);
        litBothWays("apart by " + apart, due, x, 0);
        x.lamp(0, 20 + apart / 2, 4, 9);
        litBothWays("apart by " + apart + ", with a third", withThird, x, 0);
    }

    private static void litSpans() {
        twoSpans(0, 5, 9);
        twoSpans(1, 6, 9);
        twoSpans(4, 9, 9);
        twoSpans(5, 10, 10);
        twoSpans(6, 10, 11);
        twoSpans(20, 10, 19);
        for (int kind = 0; kind < 200; kind++) {
            int many = kind % 9;
            int depth = 1 + kind * 7 % 60;
            TunnelLamps x = galleries(depth, 60);
            boolean[] isLit = new boolean[depth];
            for (int l = 0; l < many; l++) {
                int cell = (kind * 31 + l * l * 17) % depth;
                int reach = 1 + (kind + l * 5) % 9;
                boolean burns = (kind + l) % 4 != 0;
                x.lamp(0, cell, reach, burns ? 1 + l : 0);
                for (int c = 0; c < depth; c++) {
                    isLit[c] |= burns && Math.abs(c - cell) <= reach;
                }
            }
            int due = 0;
            for (boolean is : isLit) {
                due += is ? 1 : 0;
            }
            litBothWays("kind " + kind, due, x, 0);
            litBothWays("no lamp there", 0, x, 1);
        }
    }

    private static void litNoneAndAll() {
        TunnelLamps x = galleries(60, 1);
        litBothWays("no lamp", 0, x, 0);
        litBothWays("no lamp", 0, x, 1);
        x.lamp(1, 0, 1, 1);
        litBothWays("all of one", 1, x, 1);
        for (int l = 0; l < 7; l++) {
            x.lamp(0, Math.min(59, 9 + 19 * l), 9, l < 3 ? 1 : 0);
        }
        litBothWays("all but the last three", 57, x, 0);
        TunnelLamps y = galleries(60);
        for (int l = 0; l < 8; l++) {
            y.lamp(0, 3 + 8 * Math.min(l, 7), 4, 1);
        }
        litBothWays("all of sixty, by eight lamps", 60, y, 0);
        y.hours(1);
        litBothWays("all burnt out", 0, y, 0);
    }

    private static void litOnlyDug() {
        TunnelLamps x = galleries(10);
        x.lamp(0, 9, 1, 99);
        litBothWays("not the face", 2, x, 0);
        x.lamp(0, 9, 9, 99);
        litBothWays("not the cells behind the face", 10, x, 0);
        x.miner(0, 1);
        x.hours(60);
        Check.equal("dug as far as the light", 19, x.galleryOf(0, 0));
        litBothWays("the cells that were dug since", 19, x, 0);
    }
}
