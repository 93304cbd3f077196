import java.util.List;

/** Edges of the terms that tell what there is: galleries, miners, lamps, settings, exceptions, the constant. */
final class EdgeTermsTests {
    private static final int NONE = TunnelLamps.NONE;

    private EdgeTermsTests() { }

    static void addTo(List<Check.Test> tests) {
        Sentences whole = new Sentences(tests, "What it is");
        whole.test("An object is used for at most 512 calls after it has been made", "hours",
                EdgeTermsTests::lastCallOfHours);
        whole.test("An object is used for at most 512 calls after it has been made", "states",
                EdgeTermsTests::lastCallOfStates);
        Sentences galleries = new Sentences(tests, "GALLERIES, MINERS");
        galleries.test("There are at most 3 galleries, numbered from 0, which all begin at the mouth.",
                EdgeTermsTests::galleries);
        galleries.test("A gallery has a depth d, 1 to 60: the cells 0 to d - 1 are dug, the cell d is its face.",
                EdgeTermsTests::depths);
        galleries.test("To dig the cell c of the gallery g takes 3 + (7 * c + 5 * g) modulo 6 strokes.",
                EdgeTermsTests::strokes);
        galleries.test("A gallery of the depth 60 is dug no more.", EdgeTermsTests::dugNoMore);
        galleries.test("There are at most 6 miners, numbered from 0, each in a gallery, with a pace of 1 to 5 strokes "
                + "an hour.", EdgeTermsTests::miners);
        Sentences lamps = new Sentences(tests, "LAMPS");
        lamps.test("There are at most 8 lamps, numbered from 0, each with a reach of 1 to 9 and oil, 0 to 99.",
                EdgeTermsTests::lamps);
        lamps.test("A lamp hangs in a dug cell of a gallery, or is carried by the lad.",
                EdgeTermsTests::hangsOrIsCarried);
        lamps.test("It burns as long as it has oil.", EdgeTermsTests::burns);
        lamps.test("A lamp that hangs and burns lights all cells of its gallery (dug or not) whose numbers differ from "
                + "that of its own by at most its reach.", EdgeTermsTests::lights);
        lamps.test("A lamp that is carried lights nothing.", EdgeTermsTests::carriedLightsNothing);
        Sentences settings = new Sentences(tests, "SETTINGS");
        settings.test("0: the steps of an hour, 0 to 12, at first 4", EdgeTermsTests::stepsOfAnHour);
        settings.test("1: 0 or 1, at first 0.", EdgeTermsTests::ladWhoKnows);
        Sentences exceptions = new Sentences(tests, "EXCEPTIONS");
        exceptions.test("The constants: NONE = -1: There is no such result.",
                () -> Check.equal("NONE", -1, TunnelLamps.NONE));
    }

    private static void lastCallOfHours() {
        TunnelLamps x = new TunnelLamps();
        x.gallery(1);
        for (int m = 0; m < 6; m++) {
            x.miner(0, 5);
        }
        for (int call = 8; call <= 510; call++) {
            x.hours(60);
        }
        Check.equal("the time, call 511", 503 * 60, x.about(3));
        Check.equal("the hours in the dark, call 512", 6 * 503 * 60, x.about(11));
    }

    private static void lastCallOfStates() {
        TunnelLamps x = new TunnelLamps();
        for (int call = 1; call <= 511; call++) {
            x.set(0, call % 13);
        }
        Check.equal("states left, call 512", 13, x.undo());
        TunnelLamps y = new TunnelLamps();
        for (int call = 1; call <= 510; call++) {
            boolean isFull = call % 121 == 0;
            Check.equal("the length, call " + call, isFull ? 120 : call % 121, isFull ? y.clearText() : y.append('T'));
        }
        y.hours(60);
        Check.equal("the time, call 512", 60, y.save(1));
    }

    private static void galleries() {
        TunnelLamps x = new TunnelLamps();
        Check.refused("none yet", x, Check.NO_SUCH, () -> x.galleryOf(0, 0));
        Check.equal("the first", 0, x.gallery(5));
        Check.refused("one there", x, Check.NO_SUCH, () -> x.galleryOf(1, 0));
        Check.equal("the second", 1, x.gallery(6));
        Check.equal("the third", 2, x.gallery(7));
        for (int g = 0; g < 3; g++) {
            Check.equal("depth", 5 + g, x.galleryOf(g, 0));
            Check.equal("begins at the mouth", 0, x.steps(0, 0, g, 0));
        }
        Check.refused("a fourth", x, Check.NOT_POSSIBLE, () -> x.gallery(8));
        Check.refused("number 3", x, Check.NO_SUCH, () -> x.galleryOf(3, 0));
        Check.refused("number -1", x, Check.NO_SUCH, () -> x.galleryOf(-1, 0));
    }

    private static void depths() {
        for (int d : new int[] {1, 2, 59, 60}) {
            TunnelLamps x = new TunnelLamps();
            x.gallery(d);
            Check.equal("depth", d, x.galleryOf(0, 0));
            Check.equal("the last dug cell of " + d, d - 1, x.steps(0, 0, 0, d - 1));
            Check.refused("the face of " + d, x, Check.NO_SUCH, () -> x.steps(0, 0, 0, d));
            Check.refused("the cell -1 of " + d, x, Check.NO_SUCH, () -> x.steps(0, -1, 0, 0));
            Check.equal("the face is dark", 0, x.galleryOf(0, 3));
            x.lamp(0, d - 1, 1, 1);
            Check.equal("the face is lit, beside the last dug cell", 1, x.galleryOf(0, 3));
        }
        TunnelLamps x = new TunnelLamps();
        Check.refused("the depth 0", x, Check.OUT_OF_RANGE, () -> x.gallery(0));
        Check.refused("the depth 61", x, Check.OUT_OF_RANGE, () -> x.gallery(61));
    }

    /** 7 * c + 5 * g and c - g differ by a multiple of 6. */
    private static int due(int g, int c) {
        return 3 + Math.floorMod(c - g, 6);
    }

    private static TunnelLamps withGallery(int g, int depth) {
        TunnelLamps x = new TunnelLamps();
        for (int other = 0; other < g; other++) {
            x.gallery(1);
        }
        x.gallery(depth);
        return x;
    }

    private static void strokes() {
        for (int g = 0; g < 3; g++) {
            for (int c = 1; c < 60; c++) {
                TunnelLamps x = withGallery(g, c);
                String name = "the cell " + c + " of the gallery " + g;
                Check.equal(name, due(g, c), x.galleryOf(g, 2));
                x.lamp(g, c - 1, 1, 99);
                x.miner(g, 1);
                Check.equal(name + " is not yet dug", 0, x.hours(due(g, c) - 1));
                Check.equal(name + ", strokes", due(g, c) - 1, x.galleryOf(g, 1));
                Check.equal(name + " is dug", 1, x.hours(1));
                Check.equal(name + ", no strokes left", 0, x.galleryOf(g, 1));
            }
        }
    }

    private static void dugNoMore() {
        for (int g = 0; g < 3; g++) {
            TunnelLamps x = withGallery(g, 59);
            x.lamp(g, 58, 9, 99);
            x.miner(g, 5);
            Check.equal("the cell 59 of " + g, 1, x.hours(2));
            Check.equal("depth", 60, x.galleryOf(g, 0));
            int left = 10 - due(g, 59);
            Check.equal("strokes left", left, x.galleryOf(g, 1));
            Check.equal("no more", 0, x.hours(60));
            Check.equal("depth", 60, x.galleryOf(g, 0));
            Check.equal("strokes left", left, x.galleryOf(g, 1));
            Check.equal("strokes of the miner", 10, x.minerOf(0, 2));
        }
    }

    private static void miners() {
        TunnelLamps x = withGallery(2, 9);
        x.lamp(2, 8, 9, 99);
        Check.refused("none yet", x, Check.NO_SUCH, () -> x.minerOf(0, 0));
        Check.refused("pace 0", x, Check.OUT_OF_RANGE, () -> x.miner(2, 0));
        Check.refused("pace 6", x, Check.OUT_OF_RANGE, () -> x.miner(2, 6));
        for (int m = 0; m < 6; m++) {
            Check.equal("number", m, x.miner(2, Math.min(5, 1 + m)));
            Check.equal("gallery", 2, x.minerOf(m, 0));
        }
        Check.refused("a seventh", x, Check.NOT_POSSIBLE, () -> x.miner(2, 1));
        Check.refused("number 6", x, Check.NO_SUCH, () -> x.minerOf(6, 0));
        Check.refused("number -1", x, Check.NO_SUCH, () -> x.minerOf(-1, 0));
        x.hours(1);
        for (int m = 0; m < 6; m++) {
            Check.equal("strokes of an hour", Math.min(5, 1 + m), x.minerOf(m, 2));
        }
    }

    private static void lamps() {
        TunnelLamps x = withGallery(0, 9);
        Check.refused("none yet", x, Check.NO_SUCH, () -> x.lampOf(0, 0));
        int[][] reachesAndOils = {{1, 0}, {9, 99}, {1, 99}, {9, 0}, {2, 1}, {8, 98}, {5, 50}, {1, 1}};
        Check.refused("reach 0", x, Check.OUT_OF_RANGE, () -> x.lamp(0, 0, 0, 50));
        Check.refused("reach 10", x, Check.OUT_OF_RANGE, () -> x.lamp(0, 0, 10, 50));
        Check.refused("oil -1", x, Check.OUT_OF_RANGE, () -> x.lamp(0, 0, 5, -1));
        Check.refused("oil 100", x, Check.OUT_OF_RANGE, () -> x.lamp(0, 0, 5, 100));
        for (int l = 0; l < 8; l++) {
            Check.equal("number", l, x.lamp(0, l, reachesAndOils[l][0], reachesAndOils[l][1]));
            Check.equal("reach", reachesAndOils[l][0], x.lampOf(l, 0));
            Check.equal("oil", reachesAndOils[l][1], x.lampOf(l, 1));
        }
        Check.refused("a ninth", x, Check.NOT_POSSIBLE, () -> x.lamp(0, 0, 1, 1));
        Check.refused("number 8", x, Check.NO_SUCH, () -> x.lampOf(8, 0));
        Check.refused("number -1", x, Check.NO_SUCH, () -> x.lampOf(-1, 0));
    }

    private static void hangsOrIsCarried() {
        TunnelLamps x = withGallery(1, 5);
        Check.refused("in the face", x, Check.NO_SUCH, () -> x.lamp(1, 5, 1, 9));
        x.lamp(1, 4, 1, 9);
        Check.equal("in the last dug cell", 4, x.lampOf(0, 3));
        x.hang(0, 0, 0);
        x.hours(1);
        Check.equal("carried: no gallery", NONE, x.lampOf(0, 2));
        Check.equal("carried: no cell", NONE, x.lampOf(0, 3));
        Check.equal("by the lad", 0, x.lad(2));
        x.hours(1);
        Check.equal("hung in the only cell", 0, x.lampOf(0, 2));
        Check.equal("hung in the only cell", 0, x.lampOf(0, 3));
        Check.equal("the lad has none", NONE, x.lad(2));
    }

    private static void burns() {
        TunnelLamps x = withGallery(0, 9);
        x.lamp(0, 0, 1, 0);
        x.lamp(0, 0, 1, 1);
        x.lamp(0, 0, 1, 2);
        int[][] due = {{0, 1, 1}, {0, 0, 1}, {0, 0, 0}};
        for (int hour = 0; hour < 3; hour++) {
            for (int l = 0; l < 3; l++) {
                Check.equal("lamp " + l + " in hour " + hour, due[hour][l], x.lampOf(l, 4));
            }
            x.hours(1);
        }
        Check.equal("oil is never below 0", 0, x.about(5));
    }

    private static void litBothWays(String name, int due, TunnelLamps x, int g) {
        Check.equal(name + ", by cells", due, x.lit(g, 0));
        Check.equal(name + ", by spans", due, x.lit(g, 1));
    }

    private static void lights() {
        for (int reach = 1; reach <= 9; reach++) {
            TunnelLamps x = new TunnelLamps();
            x.gallery(10 + reach);
            x.gallery(11 + reach);
            x.gallery(40);
            x.lamp(0, 10, reach, 1);
            Check.equal("a face as far as reach " + reach, 1, x.galleryOf(0, 3));
            Check.equal("another gallery", 0, x.galleryOf(1, 3));
            x.lamp(1, 10, reach, 1);
            Check.equal("a face one cell farther than reach " + reach, 0, x.galleryOf(1, 3));
            x.lamp(2, 20, reach, 1);
            litBothWays("both sides, reach " + reach, 2 * reach + 1, x, 2);
            x.lamp(2, 20, 9, 0);
            litBothWays("one that does not burn", 2 * reach + 1, x, 2);
            x.hours(1);
            Check.equal("burnt out", 0, x.galleryOf(0, 3));
            litBothWays("burnt out", 0, x, 2);
        }
    }

    private static void carriedLightsNothing() {
        TunnelLamps x = new TunnelLamps();
        x.gallery(5);
        x.lamp(0, 4, 9, 50);
        x.hang(0, 0, 0);
        litBothWays("it hangs", 5, x, 0);
        x.hours(1);
        Check.equal("he carries it", 0, x.lad(2));
        Check.equal("it burns", 1, x.lampOf(0, 4));
        litBothWays("carried", 0, x, 0);
        Check.equal("the face", 0, x.galleryOf(0, 3));
        x.hours(1);
        litBothWays("it hangs again", 5, x, 0);
        Check.equal("the face", 1, x.galleryOf(0, 3));
    }

    private static void stepsOfAnHour() {
        for (int v = 0; v <= 12; v++) {
            int steps = v;
            TunnelLamps x = Twins.made(y -> {
                y.gallery(60);
                y.lamp(0, 59, 1, 0);
                y.hang(0, 0, 0);
            });
            Check.equal("at first", 4, x.set(0, steps));
            x.hours(1);
            Check.equal("steps of an hour", steps, x.lad(1));
            Check.equal("set", steps, x.set(0, 4));
        }
        Twins.refusedOutside("setting 0", 0, 12, Check.OUT_OF_RANGE, Twins::busy, (x, v) -> x.set(0, v));
    }

    private static void ladWhoKnows() {
        TunnelLamps x = new TunnelLamps();
        x.gallery(9);
        x.miner(0, 1);
        x.lamp(0, 0, 1, 50);
        x.hours(1);
        Check.equal("he does not know by himself", 0, x.about(10));
        Check.equal("at first", 0, x.set(1, 1));
        x.hours(1);
        Check.equal("he knows", 1, x.about(10));
        x.drop(0);
        Check.equal("set", 1, x.set(1, 0));
        x.hours(1);
        Check.equal("he does not know", 0, x.about(10));
        Check.equal("set", 0, x.set(1, 0));
        Twins.refusedOutside("setting 1", 0, 1, Check.OUT_OF_RANGE, Twins::busy, (y, v) -> y.set(1, v));
    }
}
