import java.util.List;
import java.util.function.IntUnaryOperator;

/** Promises 6 to 12: what there is. */
final class SightTests {
    private SightTests() { }

    static void addTo(List<Check.Test> tests) {
        tests.add(new Check.Test("promise 6: about", SightTests::about));
        tests.add(new Check.Test("promise 6: about the lad's oil", SightTests::aboutCarriedOil));
        tests.add(new Check.Test("promise 6: about refuses", SightTests::aboutRefuses));
        tests.add(new Check.Test("promise 7: galleryOf", SightTests::galleryOf));
        tests.add(new Check.Test("promise 7: a gallery of the depth 60", SightTests::deepestGallery));
        tests.add(new Check.Test("promise 7: galleryOf refuses", SightTests::galleryOfRefuses));
        tests.add(new Check.Test("promise 8: minerOf", SightTests::minerOf));
        tests.add(new Check.Test("promise 8: minerOf refuses", SightTests::minerOfRefuses));
        tests.add(new Check.Test("promise 9: lampOf", SightTests::lampOf));
        tests.add(new Check.Test("promise 9: lampOf refuses", SightTests::lampOfRefuses));
        tests.add(new Check.Test("promise 10: lad", SightTests::lad));
        tests.add(new Check.Test("promise 10: steps for all orders", SightTests::ladSteps));
        tests.add(new Check.Test("promise 10: the most steps", SightTests::mostLadSteps));
        tests.add(new Check.Test("promise 10: lad refuses", SightTests::ladRefuses));
        tests.add(new Check.Test("promise 11: orderOf", SightTests::orderOf));
        tests.add(new Check.Test("promise 11: orderOf refuses", SightTests::orderOfRefuses));
        tests.add(new Check.Test("promise 12: lit", SightTests::lit));
        tests.add(new Check.Test("promise 12: lit with joined spans", SightTests::litJoined));
        tests.add(new Check.Test("promise 12: lit refuses", SightTests::litRefuses));
    }

    private static void row(String name, int[] due, IntUnaryOperator look) {
        for (int what = 0; what < due.length; what++) {
            Check.equal(name + " " + what, due[what], look.applyAsInt(what));
        }
    }

    private static void about() {
        TunnelLamps x = new TunnelLamps();
        x.gallery(5);
        x.gallery(9);
        x.miner(0, 5);
        x.miner(0, 5);
        x.miner(1, 1);
        x.lamp(0, 4, 2, 99);
        x.lamp(0, 0, 1, 2);
        x.lamp(1, 0, 9, 0);
        x.store(100);
        x.fill(0, 30);
        x.hang(1, 0, 0);
        x.hours(2);
        // The faces 5, 6 and 7 take 8, 3 and 4 strokes, the face 8 is dark; of 30 oil 29 are spilled.
        row("about", new int[] {2, 3, 3, 2, 70, 98, 0, 4, 29, 201, 0, 3, 3}, x::about);
    }

    private static void aboutCarriedOil() {
        TunnelLamps x = new TunnelLamps();
        x.gallery(20);
        x.lamp(0, 10, 3, 50);
        x.store(40);
        x.fill(0, 60);
        x.hours(1);
        Check.equal("all that the store had", 40, x.about(6));
        Check.equal("store", 0, x.about(4));
        Check.equal("lamps", 49, x.about(5));
        x.hours(2);
        Check.equal("poured", 0, x.about(6));
        Check.equal("lamps", 87, x.about(5));
    }

    private static void aboutRefuses() {
        TunnelLamps x = new TunnelLamps();
        Check.refused("-1", x, Check.OUT_OF_RANGE, () -> x.about(-1));
        Check.refused("13", x, Check.OUT_OF_RANGE, () -> x.about(13));
    }

    private static void galleryOf() {
        TunnelLamps x = new TunnelLamps();
        x.gallery(5);
        x.gallery(1);
        x.gallery(2);
        x.miner(0, 4);
        x.miner(0, 2);
        x.miner(2, 1);
        x.lamp(0, 0, 9, 50);
        x.lamp(0, 4, 1, 0);
        x.lamp(1, 0, 1, 5);
        row("gallery 0", new int[] {5, 0, 8, 1, 2, 2}, what -> x.galleryOf(0, what));
        row("gallery 1", new int[] {1, 0, 3, 1, 0, 1}, what -> x.galleryOf(1, what));
        row("gallery 2", new int[] {2, 0, 3, 0, 1, 0}, what -> x.galleryOf(2, what));
        x.hours(1);
        row("gallery 0", new int[] {5, 6, 8, 1, 2, 2}, what -> x.galleryOf(0, what));
        x.hours(1);
        row("gallery 0", new int[] {7, 1, 4, 1, 2, 2}, what -> x.galleryOf(0, what));
        x.set(0, 0);
        x.hang(2, 1, 0);
        x.hours(1);
        row("gallery 1, lamp at the mouth", new int[] {1, 0, 3, 1, 0, 1}, what -> x.galleryOf(1, what));
        x.hang(1, 1, 0);
        x.set(0, 4);
        x.hours(1);
        row("gallery 0, a lamp is carried", new int[] {9, 4, 6, 1, 2, 1}, what -> x.galleryOf(0, what));
    }

    private static void deepestGallery() {
        TunnelLamps x = new TunnelLamps();
        x.gallery(60);
        x.gallery(60);
        x.gallery(60);
        x.lamp(0, 59, 1, 9);
        x.lamp(1, 50, 9, 9);
        x.lamp(2, 51, 9, 9);
        row("gallery 0", new int[] {60, 0, 3, 1, 0, 1}, what -> x.galleryOf(0, what));
        row("gallery 1", new int[] {60, 0, 8, 0, 0, 1}, what -> x.galleryOf(1, what));
        row("gallery 2", new int[] {60, 0, 7, 1, 0, 1}, what -> x.galleryOf(2, what));
    }

    private static void galleryOfRefuses() {
        TunnelLamps x = new TunnelLamps();
        Check.refused("no gallery", x, Check.NO_SUCH, () -> x.galleryOf(0, 0));
        x.gallery(5);
        Check.refused("1", x, Check.NO_SUCH, () -> x.galleryOf(1, 0));
        Check.refused("-1", x, Check.NO_SUCH, () -> x.galleryOf(-1, 0));
        Check.refused("what -1", x, Check.OUT_OF_RANGE, () -> x.galleryOf(0, -1));
        Check.refused("what 6", x, Check.OUT_OF_RANGE, () -> x.galleryOf(0, 6));
        Check.refused("both", x, Check.NO_SUCH, () -> x.galleryOf(1, 6));
    }

    private static void minerOf() {
        TunnelLamps x = new TunnelLamps();
        x.gallery(5);
        x.gallery(5);
        x.lamp(0, 4, 1, 3);
        x.miner(0, 1);
        x.miner(1, 5);
        x.hours(4);
        row("miner 0", new int[] {0, 1, 3, 1}, what -> x.minerOf(0, what));
        row("miner 1", new int[] {1, 5, 0, 4}, what -> x.minerOf(1, what));
    }

    private static void minerOfRefuses() {
        TunnelLamps x = new TunnelLamps();
        x.gallery(5);
        Check.refused("no miner", x, Check.NO_SUCH, () -> x.minerOf(0, 0));
        x.miner(0, 1);
        Check.refused("1", x, Check.NO_SUCH, () -> x.minerOf(1, 0));
        Check.refused("-1", x, Check.NO_SUCH, () -> x.minerOf(-1, 0));
        Check.refused("what -1", x, Check.OUT_OF_RANGE, () -> x.minerOf(0, -1));
        Check.refused("what 4", x, Check.OUT_OF_RANGE, () -> x.minerOf(0, 4));
        Check.refused("both", x, Check.NO_SUCH, () -> x.minerOf(1, 4));
    }

    private static void lampOf() {
        TunnelLamps x = new TunnelLamps();
        x.gallery(5);
        x.gallery(9);
        x.lamp(0, 2, 9, 1);
        x.lamp(1, 8, 1, 0);
        row("burning", new int[] {9, 1, 0, 2, 1}, what -> x.lampOf(0, what));
        row("empty", new int[] {1, 0, 1, 8, 0}, what -> x.lampOf(1, what));
        x.hours(1);
        row("burnt out", new int[] {9, 0, 0, 2, 0}, what -> x.lampOf(0, what));
        x.hang(0, 1, 8);
        x.hours(1);
        row("carried", new int[] {9, 0, -1, -1, 0}, what -> x.lampOf(0, what));
        x.hours(2);
        row("hung", new int[] {9, 0, 1, 8, 0}, what -> x.lampOf(0, what));
    }

    private static void lampOfRefuses() {
        TunnelLamps x = new TunnelLamps();
        x.gallery(5);
        Check.refused("no lamp", x, Check.NO_SUCH, () -> x.lampOf(0, 0));
        x.lamp(0, 0, 1, 0);
        Check.refused("1", x, Check.NO_SUCH, () -> x.lampOf(1, 0));
        Check.refused("-1", x, Check.NO_SUCH, () -> x.lampOf(-1, 0));
        Check.refused("what -1", x, Check.OUT_OF_RANGE, () -> x.lampOf(0, -1));
        Check.refused("what 5", x, Check.OUT_OF_RANGE, () -> x.lampOf(0, 5));
        Check.refused("both", x, Check.NO_SUCH, () -> x.lampOf(1, 5));
    }

    private static void lad() {
        TunnelLamps x = new TunnelLamps();
        x.gallery(9);
        x.gallery(9);
        x.lamp(1, 3, 1, 9);
        x.hang(0, 1, 8);
        x.set(0, 2);
        row("at first", new int[] {0, 0, -1, 8}, x::lad);
        x.hours(1);
        row("on the way", new int[] {1, 2, -1, 6}, x::lad);
        x.hours(1);
        row("with the lamp", new int[] {1, 4, 0, 4}, x::lad);
        x.hours(2);
        row("done", new int[] {1, 8, -1, 0}, x::lad);
    }

    private static void ladSteps() {
        TunnelLamps x = new TunnelLamps();
        x.gallery(20);
        x.gallery(10);
        x.lamp(0, 6, 1, 9);
        x.lamp(1, 4, 1, 9);
        x.hang(0, 1, 5);
        Check.equal("to it and over the mouth", 6 + 11, x.lad(3));
        x.hang(0, 1, 5);
        Check.equal("it hangs there already then", 17, x.lad(3));
        x.fill(0, 5);
        Check.equal("to the mouth and back", 17 + 10, x.lad(3));
        x.hang(1, 0, 0);
        Check.equal("to another lamp and to the mouth", 27 + 1 + 4, x.lad(3));
        x.fill(1, 5);
        Check.equal("all at the mouth", 32, x.lad(3));
        x.hang(1, 0, 19);
        Check.equal("from the mouth", 51, x.lad(3));
        Check.equal("where the lamps are", 6, x.lampOf(0, 3));
        x.set(0, 12);
        x.hours(1);
        Check.equal("twelve steps less", 39, x.lad(3));
        x.drop(1);
        Check.equal("without the second", 39, x.lad(3));
        x.hours(1);
        Check.equal("behind the fetching", 27, x.lad(3));
    }

    private static void mostLadSteps() {
        TunnelLamps x = new TunnelLamps();
        x.gallery(60);
        x.gallery(60);
        for (int l = 0; l < 6; l++) {
            x.lamp(0, 59, 1, 0);
        }
        for (int l = 0; l < 6; l++) {
            x.hang(l, 1, 59);
            Check.equal("there and back, to the far ends", 59 + 118 + l * 236, x.lad(3));
        }
    }

    private static void ladRefuses() {
        TunnelLamps x = new TunnelLamps();
        Check.refused("-1", x, Check.OUT_OF_RANGE, () -> x.lad(-1));
        Check.refused("4", x, Check.OUT_OF_RANGE, () -> x.lad(4));
    }

    private static void orderOf() {
        TunnelLamps x = new TunnelLamps();
        x.gallery(9);
        x.gallery(9);
        x.lamp(0, 0, 1, 9);
        x.lamp(0, 3, 1, 9);
        x.hang(1, 1, 8);
        x.fill(0, 77);
        row("hang", new int[] {0, 1, 1, 8}, what -> x.orderOf(0, what));
        row("fill", new int[] {1, 0, 77, -1}, what -> x.orderOf(1, what));
        x.drop(0);
        row("next", new int[] {1, 0, 77, -1}, what -> x.orderOf(0, what));
    }

    private static void orderOfRefuses() {
        TunnelLamps x = new TunnelLamps();
        Check.refused("no order", x, Check.NO_SUCH, () -> x.orderOf(0, 0));
        x.gallery(9);
        x.lamp(0, 0, 1, 9);
        x.fill(0, 1);
        Check.refused("1", x, Check.NO_SUCH, () -> x.orderOf(1, 0));
        Check.refused("-1", x, Check.NO_SUCH, () -> x.orderOf(-1, 0));
        Check.refused("what -1", x, Check.OUT_OF_RANGE, () -> x.orderOf(0, -1));
        Check.refused("what 4", x, Check.OUT_OF_RANGE, () -> x.orderOf(0, 4));
        Check.refused("both", x, Check.NO_SUCH, () -> x.orderOf(1, 4));
    }

    private static void litBothWays(String name, int due, TunnelLamps x, int g) {
        Check.equal(name + ", by cells", due, x.lit(g, 0));
        Check.equal(name + ", by spans", due, x.lit(g, 1));
    }

    private static void lit() {
        TunnelLamps x = new TunnelLamps();
        x.gallery(20);
        x.gallery(3);
        litBothWays("dark", 0, x, 0);
        x.lamp(0, 10, 2, 3);
        litBothWays("two at each side", 5, x, 0);
        x.lamp(0, 0, 4, 3);
        litBothWays("cut at the mouth", 10, x, 0);
        x.lamp(0, 19, 3, 1);
        litBothWays("cut at the face", 14, x, 0);
        x.lamp(0, 6, 1, 0);
        litBothWays("an empty lamp", 14, x, 0);
        x.lamp(1, 1, 9, 5);
        litBothWays("all", 3, x, 1);
        x.hours(1);
        litBothWays("one burnt out", 10, x, 0);
        x.hang(1, 1, 2);
        x.set(0, 1);
        x.hours(1);
        litBothWays("one carried", 5, x, 0);
    }

    private static void litJoined() {
        TunnelLamps x = new TunnelLamps();
        x.gallery(40);
        x.lamp(0, 20, 3, 9);
        x.lamp(0, 20, 5, 9);
        litBothWays("one within the other", 11, x, 0);
        x.lamp(0, 12, 2, 9);
        litBothWays("side by side", 16, x, 0);
        x.lamp(0, 30, 5, 9);
        litBothWays("overlapping", 26, x, 0);
        x.lamp(0, 5, 3, 9);
        litBothWays("apart by one", 33, x, 0);
        x.lamp(0, 5, 4, 9);
        litBothWays("joined", 35, x, 0);
        x.lamp(0, 39, 1, 9);
        litBothWays("at the face", 37, x, 0);
        x.lamp(0, 38, 9, 9);
        litBothWays("over the face", 39, x, 0);
    }

    private static void litRefuses() {
        TunnelLamps x = new TunnelLamps();
        Check.refused("no gallery", x, Check.NO_SUCH, () -> x.lit(0, 0));
        x.gallery(9);
        Check.refused("-1", x, Check.NO_SUCH, () -> x.lit(-1, 0));
        Check.refused("1", x, Check.NO_SUCH, () -> x.lit(1, 0));
        Check.refused("way -1", x, Check.OUT_OF_RANGE, () -> x.lit(0, -1));
        Check.refused("way 2", x, Check.OUT_OF_RANGE, () -> x.lit(0, 2));
        Check.refused("both", x, Check.NO_SUCH, () -> x.lit(1, 2));
    }
}
