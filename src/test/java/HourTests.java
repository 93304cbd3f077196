import java.util.List;

/** Promise 22: the hours, with all that the terms tell of them. */
final class HourTests {
    private HourTests() { }

    static void addTo(List<Check.Test> tests) {
        tests.add(new Check.Test("promise 22: hours answers the cells dug", HourTests::hours));
        tests.add(new Check.Test("promise 22: hours refuses", HourTests::hoursRefuses));
        tests.add(new Check.Test("an hour 1: strokes of every cell", HourTests::strokes));
        tests.add(new Check.Test("an hour 1: the face is lit as it is now", HourTests::faceAsItIsNow));
        tests.add(new Check.Test("an hour 1: strokes left over dig on", HourTests::strokesLeftOver));
        tests.add(new Check.Test("an hour 1: digging ends at the depth 60", HourTests::deepest));
        tests.add(new Check.Test("an hour 2: lamps burn", HourTests::lampsBurn));
        tests.add(new Check.Test("an hour 3: an order without steps", HourTests::noSteps));
        tests.add(new Check.Test("an hour 3: hanging a lamp over the mouth", HourTests::hangOverMouth));
        tests.add(new Check.Test("an hour 3: the gallery at the mouth", HourTests::galleryAtMouth));
        tests.add(new Check.Test("an hour 3: filling", HourTests::fill));
        tests.add(new Check.Test("an hour 3: spilling and an empty store", HourTests::spill));
        tests.add(new Check.Test("an hour 3: several orders in an hour", HourTests::severalOrders));
        tests.add(new Check.Test("an hour 3: six orders in twelve steps", HourTests::allInOneHour));
        tests.add(new Check.Test("an hour 4: the lad sees where it is dark", HourTests::ladSees));
        tests.add(new Check.Test("an hour 4: the lowest gallery and the fullest lamp", HourTests::ladChooses));
        tests.add(new Check.Test("an hour 4: where the lad sees nothing to do", HourTests::ladSeesNothing));
        tests.add(new Check.Test("the accounts of oil add up", HourTests::accounts));
    }

    private static void hours() {
        TunnelLamps x = new TunnelLamps();
        x.gallery(2);
        x.gallery(2);
        x.lamp(0, 1, 9, 99);
        x.lamp(1, 1, 9, 99);
        x.miner(0, 5);
        x.miner(1, 4);
        Check.equal("one hour", 2, x.hours(1));
        Check.equal("time", 1, x.about(3));
        Check.equal("sixty hours", 16, x.hours(60));
        Check.equal("time", 61, x.about(3));
        Check.equal("depth 0", 11, x.galleryOf(0, 0));
        Check.equal("cells dug", x.galleryOf(0, 0) + x.galleryOf(1, 0) - 4, x.about(12));
    }

    private static void hoursRefuses() {
        TunnelLamps x = new TunnelLamps();
        x.gallery(2);
        Check.refused("0", x, Check.OUT_OF_RANGE, () -> x.hours(0));
        Check.refused("61", x, Check.OUT_OF_RANGE, () -> x.hours(61));
        Check.refused("-1", x, Check.OUT_OF_RANGE, () -> x.hours(-1));
        Check.equal("no action", 0, x.undo());
    }

    private static void strokes() {
        int[][] due = {{4, 5, 6, 7, 8, 3, 4}, {3, 4, 5, 6, 7, 8, 3}, {8, 3, 4, 5, 6, 7, 8}};
        for (int g = 0; g < 3; g++) {
            TunnelLamps x = Check.withText("Tg01g01g01");
            x.load();
            x.lamp(g, 0, 9, 99);
            x.miner(g, 1);
            for (int c = 1; c <= 7; c++) {
                Check.equal("cell " + c + " of " + g, due[g][c - 1], x.galleryOf(g, 2));
                Check.equal("not yet", 0, x.hours(due[g][c - 1] - 1));
                Check.equal("dug", 1, x.hours(1));
            }
        }
    }

    private static void faceAsItIsNow() {
        TunnelLamps x = new TunnelLamps();
        x.gallery(6);
        x.lamp(0, 5, 1, 9);
        x.miner(0, 3);
        x.miner(0, 3);
        Check.equal("the first digs the cell, the second is in the dark", 1, x.hours(1));
        Check.equal("strokes of the first", 3, x.minerOf(0, 2));
        Check.equal("dark for the second", 1, x.minerOf(1, 3));
        Check.equal("not for the first", 0, x.minerOf(0, 3));
        Check.equal("hours in the dark", 1, x.about(11));
        x.hours(2);
        Check.equal("hours in the dark", 5, x.about(11));
        Check.equal("cells", 1, x.about(12));
    }

    private static void strokesLeftOver() {
        TunnelLamps x = new TunnelLamps();
        x.gallery(5);
        x.lamp(0, 4, 1, 99);
        x.miner(0, 5);
        x.miner(0, 2);
        x.miner(0, 5);
        Check.equal("seven strokes and five more: two cells, the second of them dark", 2, x.hours(1));
        Check.equal("depth", 7, x.galleryOf(0, 0));
        Check.equal("strokes left", 1, x.galleryOf(0, 1));
    }

    private static void deepest() {
        TunnelLamps x = new TunnelLamps();
        x.gallery(59);
        x.lamp(0, 58, 9, 99);
        x.miner(0, 5);
        x.miner(0, 5);
        Check.equal("the cell 59 takes 8", 1, x.hours(1));
        Check.equal("depth", 60, x.galleryOf(0, 0));
        Check.equal("strokes left", 2, x.galleryOf(0, 1));
        Check.equal("nothing more", 0, x.hours(20));
        Check.equal("strokes left", 2, x.galleryOf(0, 1));
        Check.equal("strokes of the miner", 5, x.minerOf(0, 2));
        x.hours(60);
        x.hours(60);
        Check.equal("face", 0, x.galleryOf(0, 3));
        Check.equal("not in the dark, there is nothing to dig", 0, x.about(11));
    }

    private static void lampsBurn() {
        TunnelLamps x = new TunnelLamps();
        x.gallery(9);
        x.lamp(0, 1, 1, 3);
        x.lamp(0, 2, 1, 1);
        x.lamp(0, 3, 1, 0);
        x.hours(1);
        Check.equal("burnt", 2, x.about(7));
        Check.equal("oil", 2, x.about(5));
        x.hang(0, 0, 8);
        x.set(0, 2);
        x.hours(1);
        Check.equal("carried", TunnelLamps.NONE, x.lampOf(0, 2));
        Check.equal("carried, and burning", 1, x.lampOf(0, 4));
        x.hours(1);
        Check.equal("a carried lamp burns too", 0, x.lampOf(0, 1));
        x.hours(9);
        Check.equal("burnt", 4, x.about(7));
    }

    private static void noSteps() {
        TunnelLamps x = new TunnelLamps();
        x.gallery(9);
        x.gallery(9);
        x.lamp(1, 0, 1, 0);
        x.store(9);
        x.set(0, 0);
        x.hang(0, 0, 0);
        x.fill(0, 5);
        x.hang(0, 1, 0);
        x.hang(0, 1, 1);
        x.hours(1);
        Check.equal("all done but the last", 1, x.about(10));
        Check.equal("filled", 5, x.lampOf(0, 1));
        Check.equal("taken for the last", 0, x.lad(2));
        x.hours(9);
        Check.equal("no step is made", 0, x.lad(1));
        x.set(0, 1);
        x.hours(1);
        Check.equal("hung", 1, x.lampOf(0, 3));
    }

    private static void hangOverMouth() {
        TunnelLamps x = new TunnelLamps();
        x.gallery(9);
        x.gallery(9);
        x.lamp(0, 3, 2, 50);
        x.set(0, 1);
        x.hang(0, 1, 2);
        int[] cells = {1, 2, 3, 2, 1, 0, 1, 2};
        int[] galleries = {0, 0, 0, 0, 0, 0, 1, 1};
        int[] carried = {-1, -1, 0, 0, 0, 0, 0, -1};
        for (int hour = 0; hour < 8; hour++) {
            x.hours(1);
            Check.equal("cell in hour " + hour, cells[hour], x.lad(1));
            Check.equal("gallery in hour " + hour, galleries[hour], x.lad(0));
            Check.equal("lamp in hour " + hour, carried[hour], x.lad(2));
        }
        Check.equal("no order", 0, x.about(10));
        Check.equal("lamp's gallery", 1, x.lampOf(0, 2));
        Check.equal("lamp's cell", 2, x.lampOf(0, 3));
    }

    private static void galleryAtMouth() {
        TunnelLamps x = new TunnelLamps();
        x.gallery(9);
        x.gallery(9);
        x.gallery(9);
        x.lamp(2, 0, 1, 50);
        x.lamp(1, 4, 1, 50);
        x.hang(0, 1, 0);
        Check.equal("an order alone moves him nowhere", 0, x.lad(0));
        x.set(0, 0);
        x.hours(1);
        Check.equal("he has taken it in 2 and hung it in 1", 1, x.lad(0));
        x.hang(1, 2, 3);
        x.hours(1);
        Check.equal("he has to go on in 1", 1, x.lad(0));
        x.set(0, 4);
        x.hours(2);
        Check.equal("back at the mouth he counts as in 1", 1, x.lad(0));
        Check.equal("at the mouth", 0, x.lad(1));
        x.set(0, 1);
        x.hours(1);
        Check.equal("he goes on into 2", 2, x.lad(0));
        x.hours(2);
        x.store(9);
        x.fill(0, 4);
        x.set(0, 2);
        x.hours(1);
        Check.equal("in 2", 2, x.lad(0));
        x.hours(1);
        Check.equal("he has filled it in 1", 1, x.lad(0));
        Check.equal("no order", 0, x.about(10));
        x.fill(1, 3);
        x.set(0, 0);
        x.hours(1);
        Check.equal("fetching oil is in no gallery", 1, x.lad(0));
        Check.equal("he carries oil", 3, x.about(6));
    }

    private static void fill() {
        TunnelLamps x = new TunnelLamps();
        x.gallery(9);
        x.lamp(0, 5, 2, 20);
        x.store(30);
        x.hang(0, 0, 6);
        x.fill(0, 12);
        x.hours(1);
        Check.equal("not before its turn", 0, x.about(6));
        x.hours(1);
        Check.equal("two steps back", 4, x.lad(1));
        Check.equal("hung", 6, x.lampOf(0, 3));
        x.hours(1);
        Check.equal("fetched", 12, x.about(6));
        Check.equal("store", 18, x.about(4));
        x.hours(1);
        Check.equal("not yet poured", 16, x.lampOf(0, 1));
        x.hours(1);
        Check.equal("burnt first, then poured", 27, x.lampOf(0, 1));
        Check.equal("nothing is carried", 0, x.about(6));
        Check.equal("no order", 0, x.about(10));
    }

    private static void spill() {
        TunnelLamps x = new TunnelLamps();
        x.gallery(9);
        x.lamp(0, 0, 2, 90);
        x.store(30);
        x.fill(0, 10);
        x.fill(0, 10);
        x.fill(0, 99);
        x.hours(1);
        Check.equal("full", 99, x.lampOf(0, 1));
        Check.equal("spilled", 20, x.about(8));
        Check.equal("store", 0, x.about(4));
        x.fill(0, 5);
        x.hours(1);
        Check.equal("none to be had", 98, x.lampOf(0, 1));
        Check.equal("done all the same", 0, x.about(10));
    }

    private static void severalOrders() {
        TunnelLamps x = new TunnelLamps();
        x.gallery(20);
        x.lamp(0, 1, 1, 0);
        x.lamp(0, 2, 1, 0);
        x.hang(0, 0, 2);
        x.hang(1, 0, 3);
        x.hang(0, 0, 10);
        x.set(0, 12);
        x.hours(1);
        Check.equal("steps: 1, 1, 0, 1, 1, 8", 0, x.about(10));
        Check.equal("lamp 0", 10, x.lampOf(0, 3));
        Check.equal("lamp 1", 3, x.lampOf(1, 3));
        Check.equal("he stands there", 10, x.lad(1));
    }

    private static void allInOneHour() {
        TunnelLamps x = new TunnelLamps();
        x.gallery(20);
        x.lamp(0, 1, 1, 0);
        x.set(0, 12);
        x.store(9);
        for (int k = 0; k < 6; k++) {
            x.hang(0, 0, k % 2 == 0 ? 2 : 1);
        }
        x.hours(1);
        Check.equal("seven steps", 0, x.about(10));
        for (int k = 0; k < 6; k++) {
            x.fill(0, 1);
        }
        x.hours(1);
        Check.equal("twelve steps", 0, x.about(10));
        Check.equal("six times one, less by what burnt", 6, x.about(5));
    }

    private static TunnelLamps darkMine() {
        TunnelLamps x = new TunnelLamps();
        x.gallery(9);
        x.gallery(8);
        x.gallery(7);
        x.miner(1, 1);
        x.set(1, 1);
        return x;
    }

    private static void ladSees() {
        TunnelLamps x = darkMine();
        x.lamp(1, 3, 2, 50);
        x.hours(1);
        Check.equal("he gets an order", 1, x.about(10));
        Check.equal("kind", 0, x.orderOf(0, 0));
        Check.equal("lamp", 0, x.orderOf(0, 1));
        Check.equal("gallery", 1, x.orderOf(0, 2));
        Check.equal("cell", 7, x.orderOf(0, 3));
        Check.equal("but has made no step", 0, x.lad(1));
        x.hours(2);
        Check.equal("hung", 7, x.lampOf(0, 3));
        Check.equal("lit", 1, x.galleryOf(1, 3));
        Check.equal("and has no order", 0, x.about(10));
        x.hours(1);
        Check.equal("a stroke", 1, x.galleryOf(1, 1));
    }

    private static void ladChooses() {
        TunnelLamps x = darkMine();
        x.miner(2, 1);
        x.lamp(2, 0, 1, 99);
        x.lamp(1, 2, 1, 20);
        x.lamp(1, 6, 1, 30);
        x.lamp(1, 1, 1, 30);
        x.lamp(1, 0, 1, 30);
        x.hours(1);
        Check.equal("gallery", 1, x.orderOf(0, 2));
        Check.equal("of the fullest the lowest lamp", 2, x.orderOf(0, 1));
        x.undo();
        x.send(0, 2);
        x.hours(1);
        Check.equal("gallery with a miner", 2, x.orderOf(0, 2));
        Check.equal("its face less one", 6, x.orderOf(0, 3));
    }

    private static void noOrder(String name, TunnelLamps x) {
        x.hours(1);
        Check.equal(name, 0, x.about(10));
    }

    private static void ladSeesNothing() {
        TunnelLamps x = darkMine();
        noOrder("no lamp", x);
        x.lamp(1, 0, 1, 1);
        noOrder("a lamp that has burnt out in this hour", x);
        x.lamp(0, 0, 9, 50);
        noOrder("a lamp elsewhere", x);
        x.lamp(1, 6, 2, 50);
        noOrder("lit", x);
        x.set(1, 0);
        x.send(0, 2);
        x.lamp(2, 0, 1, 50);
        noOrder("setting 1 is 0", x);
        x.set(1, 1);
        x.hours(1);
        Check.equal("otherwise he gets one", 1, x.about(10));
        x.hours(1);
        Check.equal("and no second one", 1, x.about(10));
        Check.write(x, "Tg01l000150m01a1");
        x.load();
        x.gallery(60);
        x.miner(1, 1);
        x.lamp(1, 9, 1, 50);
        noOrder("the depth 60", x);
        Check.write(x, "Tg02l001100m01l000150a1");
        x.load();
        x.hours(1);
        Check.equal("the depth 2", 1, x.about(10));
    }

    private static void accounts() {
        TunnelLamps x = new TunnelLamps();
        x.gallery(9);
        x.gallery(5);
        x.miner(0, 5);
        x.miner(1, 2);
        x.lamp(0, 6, 4, 90);
        x.lamp(1, 2, 4, 30);
        x.set(1, 1);
        for (int round = 0; round < 50; round++) {
            x.store(7);
            if (x.about(10) < 6) {
                x.fill(round % 2, 1 + round * 7 % 99);
            }
            x.hours(1 + round % 5);
            Check.equal("oil", x.about(9), x.about(4) + x.about(5) + x.about(6) + x.about(7) + x.about(8));
        }
    }
}
