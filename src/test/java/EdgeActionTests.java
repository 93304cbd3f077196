import java.util.List;

/** Edges of promises 13 to 22: the actions. */
final class EdgeActionTests {
    private static final int NONE = TunnelLamps.NONE;
    private static final String NO_GALLERY = "Throws IndexOutOfBoundsException if there is no such gallery";
    private static final String N_OUT_OF_RANGE = "Throws IllegalArgumentException if n is out of range";
    private static final String HAS_SIX = "Throws IllegalStateException if he has 6";
    private static final String HOW_MANY_ORDERS = "Returns how many orders he has then.";

    private EdgeActionTests() { }

    static void addTo(List<Check.Test> tests) {
        addGalleryMinerSend(tests);
        addLampStore(tests);
        addOrders(tests);
        addSetHours(tests);
    }

    private static void addGalleryMinerSend(List<Check.Test> tests) {
        Sentences gallery = new Sentences(tests, "Promise 13");
        gallery.test("d: 1 to 60: its depth", EdgeActionTests::galleryDepths);
        gallery.test("Returns its number.", EdgeActionTests::galleryNumbers);
        gallery.test("Throws IllegalArgumentException if d is out of range", () -> Twins.refusedOutside("d", 1, 60,
                Check.OUT_OF_RANGE, Twins::busy, TunnelLamps::gallery));
        gallery.test("Throws IllegalStateException if there are 3", EdgeActionTests::galleryFourth);
        Sentences miner = new Sentences(tests, "Promise 14");
        miner.test("pace: 1 to 5", EdgeActionTests::minerPaces);
        miner.test("Returns the miner's number.", EdgeActionTests::minerNumbers);
        miner.test(NO_GALLERY, () -> Twins.refusedOutside("gallery", 0, 1, Check.NO_SUCH, Twins::busy,
                (x, g) -> x.miner(g, 1)));
        miner.test("Throws IllegalArgumentException if pace is out of range", () -> Twins.refusedOutside("pace", 1, 5,
                Check.OUT_OF_RANGE, Twins::busy, (x, pace) -> x.miner(1, pace)));
        miner.test("Throws IllegalStateException if there are 6", EdgeActionTests::minerSeventh);
        Sentences send = new Sentences(tests, "Promise 15");
        send.test("Sends a miner to another gallery.", EdgeActionTests::sends);
        send.test("Returns the gallery where the miner was.", EdgeActionTests::sentFrom);
        send.test("Throws IndexOutOfBoundsException if there is no such miner or gallery", EdgeActionTests::sendNoSuch);
    }

    private static void addLampStore(List<Check.Test> tests) {
        Sentences lamp = new Sentences(tests, "Promise 16");
        lamp.test("reach: 1 to 9", EdgeActionTests::lampReaches);
        lamp.test("oil: 0 to 99", EdgeActionTests::lampOils);
        lamp.test("Returns its number.", EdgeActionTests::lampNumbers);
        lamp.test("Throws IndexOutOfBoundsException if there is no such gallery or cell",
                EdgeActionTests::lampNoSuch);
        lamp.test("Throws IllegalArgumentException if reach or oil is out of range", EdgeActionTests::lampOutOfRange);
        lamp.test("Throws IllegalStateException if there are 8", EdgeActionTests::lampNinth);
        Sentences store = new Sentences(tests, "Promise 17");
        store.test("n: 0 to 999", EdgeActionTests::storeAmounts);
        store.test("Returns the oil in the store then.", EdgeActionTests::storeThen);
        store.test(N_OUT_OF_RANGE, () -> Twins.refusedOutside("n", 0, 999, Check.OUT_OF_RANGE, Twins::busy,
                TunnelLamps::store));
        store.test("Throws IllegalStateException if it would be above 9999", EdgeActionTests::storeFull);
    }

    private static void addOrders(List<Check.Test> tests) {
        Sentences hang = new Sentences(tests, "Promise 18");
        hang.test("Gives the lad an order to hang a lamp, behind all others that he has.", EdgeActionTests::hangBehind);
        hang.test(HOW_MANY_ORDERS, EdgeActionTests::hangHowMany);
        hang.test("Throws IndexOutOfBoundsException if there is no such lamp, gallery or cell",
                EdgeActionTests::hangNoSuch);
        hang.test(HAS_SIX, () -> Twins.refused("hang", Check.NOT_POSSIBLE, EdgeActionTests::withSixOrders,
                x -> x.hang(1, 1, 11)));
        Sentences fill = new Sentences(tests, "Promise 19");
        fill.test("Gives the lad an order to fill a lamp, behind all others that he has.", EdgeActionTests::fillBehind);
        fill.test("n: 1 to 99", EdgeActionTests::fillAmounts);
        fill.test(HOW_MANY_ORDERS, EdgeActionTests::fillHowMany);
        fill.test("Throws IndexOutOfBoundsException if there is no such lamp", () -> Twins.refusedOutside("lamp", 0, 1,
                Check.NO_SUCH, Twins::busy, (x, l) -> x.fill(l, 1)));
        fill.test(N_OUT_OF_RANGE, () -> Twins.refusedOutside("n", 1, 99, Check.OUT_OF_RANGE, Twins::busy,
                (x, n) -> x.fill(1, n)));
        fill.test(HAS_SIX, () -> Twins.refused("fill", Check.NOT_POSSIBLE, EdgeActionTests::withSixOrders,
                x -> x.fill(1, 99)));
        Sentences drop = new Sentences(tests, "Promise 20");
        drop.test("Takes an order back.", EdgeActionTests::dropsThatOne);
        drop.test("k: which one, from 0", EdgeActionTests::dropPlaces);
        drop.test(HOW_MANY_ORDERS, EdgeActionTests::dropHowMany);
        drop.test("Throws IndexOutOfBoundsException if there is no such order", EdgeActionTests::dropNoSuch);
        drop.test("Throws IllegalStateException if k is 0 and he carries the lamp of that order of the kind 0",
                EdgeActionTests::dropWithLamp);
        drop.test("Throws IllegalStateException if k is 0 .. or oil", EdgeActionTests::dropWithOil);
    }

    private static void addSetHours(List<Check.Test> tests) {
        Sentences set = new Sentences(tests, "Promise 21");
        set.test("what: 0 or 1", () -> Twins.refusedOutside("what", 0, 1, Check.OUT_OF_RANGE, Twins::busy,
                (x, what) -> x.set(what, 0)));
        set.test("v: the new value, in its range", EdgeActionTests::setValues);
        set.test("Returns the previous one.", EdgeActionTests::setPrevious);
        set.test("Throws IllegalArgumentException if what or v is out of range", EdgeActionTests::setOutOfRange);
        Sentences hours = new Sentences(tests, "Promise 22");
        hours.test("n: 1 to 60", EdgeActionTests::hoursAmounts);
        hours.test("Returns how many cells are dug in them.", "none, and some", EdgeActionTests::hoursDug);
        hours.test("Returns how many cells are dug in them.", "in all galleries, in these hours alone",
                EdgeActionTests::hoursDugInAll);
        hours.test(N_OUT_OF_RANGE, () -> Twins.refusedOutside("n", 1, 60, Check.OUT_OF_RANGE, Twins::busy,
                TunnelLamps::hours));
    }

    private static TunnelLamps galleries(int... depths) {
        TunnelLamps x = new TunnelLamps();
        for (int depth : depths) {
            x.gallery(depth);
        }
        return x;
    }

    private static void galleryDepths() {
        for (int d = 1; d <= 60; d++) {
            TunnelLamps x = galleries(d);
            Check.equal("depth", d, x.galleryOf(0, 0));
            Check.equal("strokes", 0, x.galleryOf(0, 1));
        }
        Check.equal("no cell is dug by miners", 0, galleries(60, 60, 60).about(12));
    }

    private static void galleryNumbers() {
        TunnelLamps x = new TunnelLamps();
        for (int g = 0; g < 3; g++) {
            Check.equal("number", g, x.gallery(60 - g));
        }
        Check.equal("how many", 3, x.about(0));
        x.undo();
        Check.equal("the number of one taken back", 2, x.gallery(1));
    }

    private static void galleryFourth() {
        Twins.Setup three = Twins.busyAnd(x -> Check.equal("the third", 2, x.gallery(60)));
        Twins.refused("a fourth", Check.NOT_POSSIBLE, three, x -> x.gallery(1));
        Twins.refused("a fourth", Check.NOT_POSSIBLE, three, x -> x.gallery(60));
    }

    private static void minerPaces() {
        TunnelLamps x = galleries(9);
        for (int pace = 1; pace <= 5; pace++) {
            Check.equal("number", pace - 1, x.miner(0, pace));
            Check.equal("pace", pace, x.minerOf(pace - 1, 1));
            Check.equal("strokes", 0, x.minerOf(pace - 1, 2));
            Check.equal("hours in the dark", 0, x.minerOf(pace - 1, 3));
        }
    }

    private static void minerNumbers() {
        TunnelLamps x = galleries(9, 9, 9);
        for (int m = 0; m < 6; m++) {
            Check.equal("number", m, x.miner(m % 3, 1));
            Check.equal("gallery", m % 3, x.minerOf(m, 0));
        }
        Check.equal("how many", 6, x.about(1));
    }

    private static void minerSeventh() {
        Twins.Setup six = Twins.busyAnd(x -> {
            for (int m = 2; m < 6; m++) {
                Check.equal("number", m, x.miner(0, 5));
            }
        });
        Twins.refused("a seventh", Check.NOT_POSSIBLE, six, x -> x.miner(0, 1));
        Twins.refused("a seventh", Check.NOT_POSSIBLE, six, x -> x.miner(1, 5));
    }

    private static void sends() {
        TunnelLamps x = galleries(9, 9, 9);
        for (int m = 0; m < 6; m++) {
            x.miner(0, 1);
        }
        x.send(0, 2);
        x.send(5, 1);
        int[] due = {2, 0, 0, 0, 0, 1};
        for (int m = 0; m < 6; m++) {
            Check.equal("gallery of " + m, due[m], x.minerOf(m, 0));
        }
        Check.equal("in 0", 4, x.galleryOf(0, 4));
    }

    private static void sentFrom() {
        TunnelLamps x = galleries(9, 9, 9);
        x.miner(1, 1);
        Check.equal("where it was put", 1, x.send(0, 2));
        Check.equal("where it was sent", 2, x.send(0, 2));
        Check.equal("where it stayed", 2, x.send(0, 0));
        Check.equal("the lowest", 0, x.send(0, 1));
    }

    private static void sendNoSuch() {
        Twins.refusedOutside("miner", 0, 1, Check.NO_SUCH, Twins::busy, (x, m) -> x.send(m, 0));
        Twins.refusedOutside("gallery", 0, 1, Check.NO_SUCH, Twins::busy, (x, g) -> x.send(1, g));
        Twins.refused("neither", Check.NO_SUCH, Twins::busy, x -> x.send(2, 2));
        Twins.refused("no miner at all", Check.NO_SUCH, x -> x.gallery(5), x -> x.send(0, 0));
        Twins.refused("nothing at all", Check.NO_SUCH, x -> x.append('T'), x -> x.send(0, 0));
    }

    private static void lampReaches() {
        for (int reach = 1; reach <= 9; reach++) {
            TunnelLamps x = galleries(60);
            x.lamp(0, 30, reach, 1);
            Check.equal("reach", reach, x.lampOf(0, 0));
            Check.equal("cells lit", 1 + 2 * reach, x.lit(0, 0));
        }
    }

    private static void lampOils() {
        for (int oil = 0; oil <= 99; oil++) {
            TunnelLamps x = galleries(1);
            x.lamp(0, 0, 1, oil);
            Check.equal("oil", oil, x.lampOf(0, 1));
            Check.equal("oil in all lamps", oil, x.about(5));
            Check.equal("oil that came", oil, x.about(9));
        }
    }

    private static void lampNumbers() {
        TunnelLamps x = galleries(60, 60, 60);
        for (int l = 0; l < 8; l++) {
            Check.equal("number", l, x.lamp(l % 3, l == 7 ? 59 : l, 1 + l, 99 - l));
            Check.equal("gallery", l % 3, x.lampOf(l, 2));
            Check.equal("cell", l == 7 ? 59 : l, x.lampOf(l, 3));
        }
        Check.equal("how many", 8, x.about(2));
    }

    private static void lampNoSuch() {
        Twins.refusedOutside("gallery", 0, 1, Check.NO_SUCH, Twins::busy, (x, g) -> x.lamp(g, 0, 1, 0));
        Twins.refusedOutside("cell", 0, 11, Check.NO_SUCH, Twins::busy, (x, c) -> x.lamp(1, c, 1, 0));
        Twins.refused("the cell of another gallery", Check.NO_SUCH, Twins::busy, x -> x.lamp(0, 11, 1, 0));
        Twins.refused("no gallery at all", Check.NO_SUCH, x -> x.store(5), x -> x.lamp(0, 0, 1, 0));
        TunnelLamps x = galleries(8);
        x.lamp(0, 7, 9, 9);
        x.miner(0, 5);
        Check.refused("not yet dug", x, Check.NO_SUCH, () -> x.lamp(0, 8, 1, 0));
        x.hours(1);
        Check.equal("just dug", 1, x.lamp(0, 8, 1, 0));
    }

    private static void lampOutOfRange() {
        Twins.refusedOutside("reach", 1, 9, Check.OUT_OF_RANGE, Twins::busy, (x, reach) -> x.lamp(1, 11, reach, 0));
        Twins.refusedOutside("oil", 0, 99, Check.OUT_OF_RANGE, Twins::busy, (x, oil) -> x.lamp(1, 11, 9, oil));
        Twins.refused("both", Check.OUT_OF_RANGE, Twins::busy, x -> x.lamp(0, 0, 0, 100));
    }

    private static void lampNinth() {
        Twins.Setup eight = Twins.busyAnd(x -> {
            for (int l = 2; l < 8; l++) {
                Check.equal("number", l, x.lamp(0, 0, 1, 1));
            }
        });
        Twins.refused("a ninth", Check.NOT_POSSIBLE, eight, x -> x.lamp(0, 0, 1, 0));
        Twins.refused("a ninth", Check.NOT_POSSIBLE, eight, x -> x.lamp(1, 11, 9, 99));
    }

    private static void storeAmounts() {
        TunnelLamps x = new TunnelLamps();
        Check.equal("0", 0, x.store(0));
        Check.equal("999", 999, x.store(999));
        Check.equal("998", 1997, x.store(998));
        Check.equal("1", 1998, x.store(1));
        Check.equal("came", 1998, x.about(9));
    }

    private static void storeThen() {
        TunnelLamps x = galleries(1);
        x.lamp(0, 0, 1, 0);
        Check.equal("all of it", 100, x.store(100));
        x.fill(0, 99);
        x.hours(1);
        Check.equal("without what was fetched", 6, x.store(5));
        Check.equal("the same", 6, x.store(0));
    }

    private static void fillTheStore(TunnelLamps x) {
        x.store(999 - x.about(4));
        for (int i = 2; i <= 10; i++) {
            x.store(999);
        }
    }

    private static void storeFull() {
        Twins.refused("9990 and 10", Check.NOT_POSSIBLE, Twins.busyAnd(EdgeActionTests::fillTheStore),
                x -> x.store(10));
        Twins.refused("9990 and 999", Check.NOT_POSSIBLE, Twins.busyAnd(EdgeActionTests::fillTheStore),
                x -> x.store(999));
        Twins.Setup full = Twins.busyAnd(x -> {
            fillTheStore(x);
            Check.equal("just full", 9999, x.store(9));
            Check.equal("nothing more", 9999, x.store(0));
        });
        Twins.refused("9999 and 1", Check.NOT_POSSIBLE, full, x -> x.store(1));
        Twins.refused("9999 and 999", Check.NOT_POSSIBLE, full, x -> x.store(999));
        TunnelLamps x = galleries(1);
        x.lamp(0, 0, 1, 0);
        fillTheStore(x);
        x.store(9);
        x.fill(0, 2);
        x.hours(1);
        Check.refused("one more than was fetched", x, Check.NOT_POSSIBLE, () -> x.store(3));
        Check.equal("as much as was fetched", 9999, x.store(2));
        Check.equal("all that came", 10001, x.about(9));
    }

    private static void orderIs(int k, int kind, int lamp, int third, int fourth, TunnelLamps x) {
        int[] due = {kind, lamp, third, fourth};
        for (int what = 0; what < 4; what++) {
            Check.equal("order " + k + ", " + what, due[what], x.orderOf(k, what));
        }
    }

    private static void hangBehind() {
        TunnelLamps x = galleries(9, 9);
        x.lamp(0, 0, 1, 9);
        x.lamp(0, 8, 1, 9);
        x.hang(1, 1, 8);
        orderIs(0, 0, 1, 1, 8, x);
        x.hours(2);
        Check.equal("he carries it", 1, x.lad(2));
        x.hang(1, 0, 0);
        orderIs(0, 0, 1, 1, 8, x);
        orderIs(1, 0, 1, 0, 0, x);
        x.fill(0, 9);
        x.hang(0, 1, 0);
        orderIs(3, 0, 0, 1, 0, x);
        Check.equal("nothing is done by the order alone", NONE, x.lampOf(1, 2));
    }

    private static void hangHowMany() {
        TunnelLamps x = galleries(9);
        x.lamp(0, 0, 1, 9);
        for (int k = 1; k <= 6; k++) {
            Check.equal("orders", k, x.hang(0, 0, 8));
        }
        x.drop(5);
        Check.equal("six again", 6, x.hang(0, 0, 0));
    }

    private static void hangNoSuch() {
        Twins.refusedOutside("lamp", 0, 1, Check.NO_SUCH, Twins::busy, (x, l) -> x.hang(l, 0, 0));
        Twins.refusedOutside("gallery", 0, 1, Check.NO_SUCH, Twins::busy, (x, g) -> x.hang(1, g, 0));
        Twins.refusedOutside("cell", 0, 11, Check.NO_SUCH, Twins::busy, (x, c) -> x.hang(1, 1, c));
        Twins.refused("the cell of another gallery", Check.NO_SUCH, Twins::busy, x -> x.hang(1, 0, 11));
        Twins.refused("no lamp at all", Check.NO_SUCH, x -> x.gallery(5), x -> x.hang(0, 0, 0));
        Twins.refused("nothing at all", Check.NO_SUCH, x -> x.store(5), x -> x.hang(0, 0, 0));
        TunnelLamps x = galleries(8);
        x.lamp(0, 7, 9, 9);
        x.miner(0, 5);
        Check.refused("not yet dug", x, Check.NO_SUCH, () -> x.hang(0, 0, 8));
        x.hours(1);
        Check.equal("just dug", 1, x.hang(0, 0, 8));
    }

    private static void withSixOrders(TunnelLamps x) {
        Twins.busy(x);
        for (int k = 3; k <= 6; k++) {
            Check.equal("orders", k, k % 2 == 0 ? x.hang(0, 0, 8) : x.fill(0, 1));
        }
    }

    private static void fillBehind() {
        TunnelLamps x = galleries(9);
        x.lamp(0, 8, 1, 9);
        x.store(9);
        x.hang(0, 0, 0);
        x.fill(0, 9);
        orderIs(1, 1, 0, 9, NONE, x);
        x.fill(0, 7);
        orderIs(2, 1, 0, 7, NONE, x);
        Check.equal("nothing is done by the order alone", 9, x.about(4));
    }

    private static void fillAmounts() {
        for (int n = 1; n <= 99; n++) {
            TunnelLamps x = galleries(1);
            x.lamp(0, 0, 1, 0);
            x.store(999);
            x.fill(0, n);
            Check.equal("n", n, x.orderOf(0, 2));
            x.hours(1);
            Check.equal("filled", n, x.lampOf(0, 1));
        }
    }

    private static void fillHowMany() {
        TunnelLamps x = galleries(9);
        x.lamp(0, 0, 1, 9);
        for (int k = 1; k <= 6; k++) {
            Check.equal("orders", k, x.fill(0, k));
        }
        x.drop(0);
        Check.equal("six again", 6, x.fill(0, 99));
    }

    /** Six orders, told apart by what they fill with; the lad has not begun. */
    private static TunnelLamps sixToFill() {
        TunnelLamps x = galleries(9);
        x.lamp(0, 8, 1, 0);
        for (int k = 0; k < 6; k++) {
            x.fill(0, 10 + k);
        }
        return x;
    }

    private static void dropsThatOne() {
        for (int k = 0; k < 6; k++) {
            TunnelLamps x = sixToFill();
            x.drop(k);
            for (int left = 0; left < 5; left++) {
                Check.equal("behind drop(" + k + ")", 10 + left + (left < k ? 0 : 1), x.orderOf(left, 2));
            }
        }
    }

    private static void dropPlaces() {
        TunnelLamps x = sixToFill();
        Check.equal("the last", 5, x.drop(5));
        Check.refused("the last is gone", x, Check.NO_SUCH, () -> x.drop(5));
        Check.equal("the first", 4, x.drop(0));
        Check.equal("the second comes first", 11, x.orderOf(0, 2));
        TunnelLamps y = galleries(9);
        y.lamp(0, 8, 1, 0);
        y.lamp(0, 0, 1, 0);
        y.hang(0, 0, 0);
        y.fill(1, 5);
        y.store(9);
        y.hours(1);
        Check.equal("the one that is followed, before the lamp is taken", 1, y.drop(0));
        y.hours(1);
        Check.equal("he goes back for the next one", 0, y.lad(1));
        Check.equal("which he has done", 5, y.lampOf(1, 1));
    }

    private static void dropHowMany() {
        TunnelLamps x = sixToFill();
        for (int left = 5; left >= 0; left--) {
            Check.equal("left", left, x.drop(left / 2));
        }
        Check.refused("none left", x, Check.NO_SUCH, () -> x.drop(0));
    }

    private static void dropNoSuch() {
        Twins.refusedOutside("order", 0, 1, Check.NO_SUCH, Twins::busy, TunnelLamps::drop);
        Twins.refused("no order", Check.NO_SUCH, x -> x.gallery(5), x -> x.drop(0));
        Twins.refused("one order", Check.NO_SUCH, Twins.busyAnd(x -> x.drop(1)), x -> x.drop(1));
    }

    private static void dropWithLamp() {
        Twins.Setup carries = x -> {
            x.gallery(9);
            x.lamp(0, 4, 1, 9);
            x.hang(0, 0, 8);
            x.fill(0, 9);
            x.hours(1);
            Check.equal("he has just taken it", 0, x.lad(2));
        };
        Twins.refused("the order of the lamp that he carries", Check.NOT_POSSIBLE, carries, x -> x.drop(0));
        Twins.refused("at the mouth", Check.NOT_POSSIBLE, x -> {
            x.gallery(1);
            x.lamp(0, 0, 1, 9);
            x.gallery(5);
            x.hang(0, 1, 4);
            x.set(0, 0);
            x.hours(1);
        }, x -> x.drop(0));
        TunnelLamps x = Twins.made(carries);
        Check.equal("another order", 1, x.drop(1));
        Check.equal("he carries it still", 0, x.lad(2));
        x.fill(0, 9);
        x.hours(1);
        Check.equal("it is hung", 8, x.lampOf(0, 3));
        Check.equal("the next one, for the same lamp", 0, x.drop(0));
        TunnelLamps y = Twins.made(z -> {
            z.gallery(9);
            z.lamp(0, 5, 1, 9);
            z.hang(0, 0, 8);
            z.hours(1);
        });
        Check.equal("a step before it is taken", 0, y.drop(0));
    }

    private static void dropWithOil() {
        Twins.Setup carries = x -> {
            x.gallery(9);
            x.lamp(0, 8, 1, 9);
            x.store(1);
            x.fill(0, 9);
            x.hang(0, 0, 0);
            x.hours(1);
            Check.equal("he carries all there was", 1, x.about(6));
        };
        Twins.refused("with oil", Check.NOT_POSSIBLE, carries, x -> x.drop(0));
        Twins.refused("with much oil", Check.NOT_POSSIBLE, Twins::busy, x -> x.drop(0));
        TunnelLamps x = Twins.made(carries);
        Check.equal("another order", 1, x.drop(1));
        x.fill(0, 9);
        x.hours(1);
        Check.equal("it is poured", 0, x.about(6));
        Check.equal("the next one, before he fetches", 0, x.drop(0));
        TunnelLamps y = galleries(9);
        y.lamp(0, 8, 1, 9);
        y.store(9);
        y.fill(0, 9);
        Check.equal("before the hour in which he fetches", 0, y.drop(0));
        Check.equal("the oil is in the store", 9, y.about(4));
    }

    private static void setValues() {
        TunnelLamps x = new TunnelLamps();
        int[][] values = {{0, 0}, {0, 12}, {0, 1}, {0, 11}, {1, 0}, {1, 1}};
        for (int[] value : values) {
            x.set(value[0], value[1]);
            Check.equal("the new value", value[1], x.set(value[0], value[1]));
        }
    }

    private static void setPrevious() {
        TunnelLamps x = new TunnelLamps();
        int previous = 4;
        for (int v = 0; v <= 12; v++) {
            Check.equal("setting 0", previous, x.set(0, v));
            previous = v;
        }
        Check.equal("setting 1 at first", 0, x.set(1, 1));
        Check.equal("setting 1", 1, x.set(1, 1));
        Check.equal("setting 1", 1, x.set(1, 0));
        Check.equal("setting 0 is another one", 12, x.set(0, 0));
        Check.equal("setting 1 is another one", 0, x.set(1, 0));
    }

    private static void setOutOfRange() {
        Twins.refusedOutside("what", 0, 1, Check.OUT_OF_RANGE, Twins::busy, (x, what) -> x.set(what, 1));
        Twins.refusedOutside("v of 0", 0, 12, Check.OUT_OF_RANGE, Twins::busy, (x, v) -> x.set(0, v));
        Twins.refusedOutside("v of 1", 0, 1, Check.OUT_OF_RANGE, Twins::busy, (x, v) -> x.set(1, v));
        Twins.refused("a value of setting 0 alone", Check.OUT_OF_RANGE, Twins::busy, x -> x.set(1, 12));
        Twins.refused("both", Check.OUT_OF_RANGE, Twins::busy, x -> x.set(2, 13));
    }

    private static void hoursAmounts() {
        for (int n = 1; n <= 60; n++) {
            TunnelLamps x = galleries(5);
            x.lamp(0, 0, 1, 99);
            x.hours(n);
            Check.equal("time", n, x.about(3));
            Check.equal("burnt", n, x.about(7));
        }
    }

    private static void hoursDug() {
        Check.equal("nothing there", 0, new TunnelLamps().hours(60));
        TunnelLamps x = galleries(8);
        x.lamp(0, 7, 9, 99);
        Check.equal("no miner", 0, x.hours(1));
        x.miner(0, 5);
        Check.equal("the cell 8 takes five", 1, x.hours(1));
        Check.equal("the cell 9 takes six", 0, x.hours(1));
        x.miner(0, 5);
        x.miner(0, 5);
        x.miner(0, 5);
        x.miner(0, 5);
        Check.equal("those of six, seven, eight, three and four, with thirty strokes", 5, x.hours(1));
        Check.equal("those of these hours alone", 3, x.hours(60));
        Check.equal("all", 9, x.about(12));
    }

    private static void hoursDugInAll() {
        TunnelLamps x = galleries(1, 1, 1);
        for (int g = 0; g < 3; g++) {
            x.lamp(g, 0, 3, 99);
            x.miner(g, 1);
        }
        // The cells 1 to 3: 4, 5 and 6 strokes; 3, 4 and 5; 8, 3 and 4.
        Check.equal("a cell in two galleries", 2, x.hours(4));
        Check.equal("none", 0, x.hours(2));
        Check.equal("in one", 1, x.hours(1));
        Check.equal("the last ones", 6, x.hours(60));
        Check.equal("all", 9, x.about(12));
    }
}
