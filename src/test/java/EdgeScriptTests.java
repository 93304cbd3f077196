import java.math.BigInteger;
import java.util.List;

/** Edges of promises 29 and 30: scripts and simulations. */
final class EdgeScriptTests {
    private static final int NONE = TunnelLamps.NONE;
    private static final int GROUPS = 1000000;
    /** Fewer than the calls that an object is made for, less those that make the mine. */
    private static final int CALLS = 400;
    private static final String COMMANDS = "A script has 1 to 3 commands; each is a group of six decimal digits d1 to d6, and"
            + " the first command is the highest group of the number (with zeros before it, if it has fewer digits).";
    private static final String FAIL = "The commands 1 to 5 fail if the method would throw an exception; commands with"
            + " galleries, cells, miners or lamps that do not exist fail, and so does any other group (also one with another"
            + " digit where a 0 is written, or a b above 1).";
    private static final String OUT_OF_RANGE = "Throws IllegalArgumentException if n is out of range, or if script is"
            + " negative or has more than 6 * n digits";
    private static final String COUNTS = "Returns 1000 * (the cells dug in the turns) + (the hours of miners in the dark in"
            + " the turns, or 999 if there are more).";
    private static final String NEXT_X = "Each turn first replaces x by x * 6364136223846793005L + 1442695040888963407L (with"
            + " long overflow), and r = (int) (x >>> 33) is computed.";
    private static final long FACTOR = 6364136223846793005L;
    private static final long ADDED = 1442695040888963407L;

    private EdgeScriptTests() { }

    static void addTo(List<Check.Test> tests) {
        new Sentences(tests, "Terms").test("All divisions are rounded down.", EdgeScriptTests::roundedDown);
        addScript(new Sentences(tests, "Promise 29"));
        addSimulate(new Sentences(tests, "Promise 30"));
    }

    private static void addScript(Sentences script) {
        script.test("Runs a script on a copy of the state.", EdgeScriptTests::onCopy);
        script.test(COMMANDS, EdgeScriptTests::commands);
        script.test("1 0 0 0 n n: hours(nn).", () -> asByCall(x -> x.hours(1), 100001, x -> x.hours(60), 100060));
        script.test("2 l g c c 0: hang(l, g, cc).", () -> asByCall(x -> x.hang(0, 0, 0), 200000,
                x -> x.hang(1, 1, 11), 211110));
        script.test("3 l 0 n n 0: fill(l, nn).", () -> asByCall(x -> x.fill(0, 1), 300010, x -> x.fill(1, 99), 310990));
        script.test("4 w 0 v v 0: set(w, vv).", () -> asByCall(x -> x.set(0, 12), 400120, x -> x.set(1, 1), 410010));
        script.test("5 m g 0 0 0: send(m, g).", () -> asByCall(x -> x.send(0, 1), 501000, x -> x.send(1, 0), 510000));
        script.test("6 g 0 0 0 b: succeeds if the face of the gallery g is lit and b is 1, or is not and b is 0.",
                EdgeScriptTests::testsLight);
        script.test("7 g 0 0 n n: succeeds if the depth of the gallery g is at least nn.", EdgeScriptTests::testsDepth);
        script.test("8 l 0 0 n n: succeeds if the lamp l has at least nn oil.", EdgeScriptTests::testsOil);
        script.test("9 0 0 0 0 n: succeeds if the lad has at most n orders.", EdgeScriptTests::testsOrders);
        script.test(FAIL, "every group, on a mine with nothing", () -> everyGroup(x -> x.set(0, 4)));
        script.test(FAIL, "every group, on a mine with some", () -> everyGroup(EdgeScriptTests::some));
        script.test(FAIL, "every group, on a mine with all there may be but an order", () -> everyGroup(x -> all(x, 5)));
        script.test(FAIL, "every group, on a mine with all there may be", () -> everyGroup(x -> all(x, 6)));
        script.test("nn, cc and vv are decimal numbers.", EdgeScriptTests::decimalNumbers);
        script.test("n: number of commands, 1 to 3", () -> Twins.refusedOutside("n", 1, 3, Check.OUT_OF_RANGE,
                Twins::busy, (x, n) -> x.runScript(n, 100001)));
        script.test("script: the commands, a number of at most 6 * n digits (0 or more)", EdgeScriptTests::mostDigits);
        script.test("Returns the index, from 0, of the first command that fails; NONE if all succeed.",
                EdgeScriptTests::firstThatFails);
        script.test(OUT_OF_RANGE, "the script", EdgeScriptTests::scriptOutOfRange);
        script.test(OUT_OF_RANGE, "6 * n with overflow", EdgeScriptTests::overflowingN);
    }

    private static void addSimulate(Sentences simulate) {
        simulate.test("Simulates m turns on a copy of the state.", EdgeScriptTests::simulatesOnCopy);
        simulate.test("A long x starts as the seed.", EdgeScriptTests::startsAsSeed);
        simulate.test(NEXT_X, "with long overflow", EdgeScriptTests::overflowingX);
        simulate.test(NEXT_X, "r is never negative", EdgeScriptTests::greatestR);
        simulate.test("q is r / 16.", EdgeScriptTests::roundedDown);
        String[] kinds = {"0: gallery(1 + q % 30).", "1 and 2: miner(q % 3, 1 + q / 4 % 5).",
            "1 and 2: miner(q % 3, 1 + q / 4 % 5).", "3: lamp(q % 3, q / 4 % 30, 1 + q / 128 % 9, q / 2048 % 100).",
            "4: store(q % 200).", "5 and 6: hang(q % 8, q / 8 % 3, q / 32 % 40).",
            "5 and 6: hang(q % 8, q / 8 % 3, q / 32 % 40).", "7: fill(q % 8, 1 + q / 8 % 99).",
            "8: set(0, q % 13), if q / 16 % 2 is 0, otherwise set(1, q % 2).", "9: send(q % 6, q / 8 % 3)."};
        for (int kind = 0; kind < kinds.length; kind++) {
            int first = kind;
            simulate.test(kinds[kind], "r % 16 is " + kind, () -> firstTurns(first));
        }
        simulate.test("Otherwise: hours(1 + q % 12).", EdgeScriptTests::hoursOfTurn);
        simulate.test("What would throw an exception is left out.", EdgeScriptTests::leftOut);
        simulate.test("seed: any long", EdgeScriptTests::anySeed);
        simulate.test("m: number of turns, 1 to 60", EdgeScriptTests::turns);
        simulate.test(COUNTS, "998, 999, 1000, 1001 hours in the dark", EdgeScriptTests::darkHours);
        simulate.test(COUNTS, "in the turns alone", EdgeScriptTests::inTheTurns);
        simulate.test("Throws IllegalArgumentException if m is out of range", () -> Twins.refusedOutside("m", 1, 60,
                Check.OUT_OF_RANGE, Twins::busy, (x, m) -> x.simulate(5, m)));
    }

    /** A gallery of 9 that is lit, and one of 12 that is dark; two miners, a lamp of 40 and one without oil. */
    private static void some(TunnelLamps x) {
        x.gallery(9);
        x.gallery(12);
        x.miner(0, 2);
        x.miner(1, 3);
        x.lamp(0, 8, 3, 40);
        x.lamp(1, 4, 1, 0);
        x.store(100);
        x.fill(0, 3);
        x.hang(0, 0, 2);
    }

    private static void all(TunnelLamps x, int orders) {
        for (int g = 0; g < 3; g++) {
            x.gallery(60);
        }
        for (int i = 0; i < 8; i++) {
            x.lamp(i % 2, 59, 1, 99);
        }
        for (int m = 0; m < 6; m++) {
            x.miner(2, 5);
        }
        for (int k = 0; k < orders; k++) {
            x.fill(k, 9);
        }
    }

    private static boolean passes(TunnelLamps x, int n, long script) {
        return x.runScript(n, script) == NONE;
    }

    private static void isSo(String what, boolean due, boolean got) {
        Check.equal(what, due ? 1 : 0, got ? 1 : 0);
    }

    private static void onCopy() {
        long[] scripts = {100060_200000_300990L, 400000_410010_501000L, 100001_100060_100060L};
        for (long script : scripts) {
            Twins.leftAlone("script " + script, EdgeScriptTests::some, x -> x.runScript(3, script));
            Twins.leftAlone("script " + script, Twins::busyWithLamp, x -> x.runScript(3, script));
        }
        TunnelLamps x = Twins.made(EdgeScriptTests::some);
        isSo("a command goes on from the one before it", true, passes(x, 3, 100005_100006_800029L));
        isSo("and not from the state", false, passes(x, 3, 100005_100006_800033L));
    }

    private static void commands() {
        TunnelLamps x = Twins.made(EdgeScriptTests::some);
        isSo("one", true, passes(x, 1, 100001L));
        isSo("two", true, passes(x, 2, 100001_100001L));
        isSo("three", true, passes(x, 3, 100001_100001_100001L));
        Check.equal("the first is the highest", 1, x.runScript(2, 900002_900001L));
        Check.equal("the first is the highest", 0, x.runScript(2, 900001_900002L));
        Check.equal("one of two has zeros before it", 0, x.runScript(2, 100001L));
        Check.equal("two of three have zeros before them", 0, x.runScript(3, 100001_100001L));
        Check.equal("zeros alone", 0, x.runScript(1, 0));
        Check.equal("zeros alone", 0, x.runScript(3, 0));
        Check.equal("zeros in the last group", 1, x.runScript(2, 100001_000000L));
        Check.equal("zeros before the last group", 2, x.runScript(3, 100001_100001_000001L));
    }

    /** Behind each of the groups, and behind both, the tests of a script tell what is there behind the calls themselves. */
    private static void asByCall(Twins.Ask first, long firstGroup, Twins.Ask second, long secondGroup) {
        showsThen(firstGroup, 1, first);
        showsThen(secondGroup, 1, second);
        showsThen(firstGroup * GROUPS + secondGroup, 2, first, second);
        showsThen(firstGroup * GROUPS + 100008, 2, first, x -> x.hours(8));
        showsThen(secondGroup * GROUPS + 100008, 2, second, x -> x.hours(8));
    }

    private static void showsThen(long script, int n, Twins.Ask... calls) {
        TunnelLamps done = Twins.made(EdgeScriptTests::some);
        for (Twins.Ask call : calls) {
            call.of(done);
        }
        TunnelLamps x = Twins.made(EdgeScriptTests::some);
        for (int g = 0; g < 2; g++) {
            long group = 10000L * g;
            shows(x, n, script, 600000 + group + done.galleryOf(g, 3), 600000 + group + 1 - done.galleryOf(g, 3));
            shows(x, n, script, 700000 + group + done.galleryOf(g, 0), 700000 + group + done.galleryOf(g, 0) + 1);
            // A lamp has at most 99 oil, and a group 8 l 0 1 0 0 is none.
            shows(x, n, script, 800000 + group + done.lampOf(g, 1), 800000 + group + done.lampOf(g, 1) + 1);
        }
        int orders = done.about(10);
        shows(x, n, script, 900000 + orders, orders == 0 ? 900010 : 900000 + orders - 1);
    }

    private static void shows(TunnelLamps x, int n, long script, long good, long bad) {
        Check.equal("test " + good + " behind " + script, NONE, x.runScript(n + 1, script * GROUPS + good));
        Check.equal("test " + bad + " behind " + script, n, x.runScript(n + 1, script * GROUPS + bad));
    }

    private static void testsLight() {
        for (int reach = 1; reach <= 9; reach++) {
            int reaches = reach;
            TunnelLamps x = Twins.made(y -> {
                y.gallery(10 + reaches);
                y.gallery(11 + reaches);
                y.gallery(60);
                y.lamp(0, 10, reaches, 1);
                y.lamp(1, 10, reaches, 1);
            });
            isSo("lit, 1", true, passes(x, 1, 600001));
            isSo("lit, 0", false, passes(x, 1, 600000));
            isSo("dark, 1", false, passes(x, 1, 610001));
            isSo("dark, 0", true, passes(x, 1, 610000));
            isSo("the depth 60, dark, 0", true, passes(x, 1, 620000));
            isSo("behind an hour, 1", false, passes(x, 2, 100001_600001L));
            isSo("behind an hour, 0", true, passes(x, 2, 100001_600000L));
            isSo("no such gallery", false, passes(x, 1, 630000));
            isSo("lit, 2", false, passes(x, 1, 600002));
            isSo("dark, 2", false, passes(x, 1, 610002));
        }
    }

    private static void testsDepth() {
        for (int depth : new int[] {1, 2, 59, 60}) {
            TunnelLamps x = Twins.made(y -> {
                y.gallery(30);
                y.gallery(1);
                y.gallery(depth);
            });
            for (int nn = 0; nn <= 99; nn++) {
                isSo("depth " + depth + ", at least " + nn, depth >= nn, passes(x, 1, 720000 + nn));
            }
            isSo("no such gallery", false, passes(x, 1, 730000));
        }
    }

    private static void testsOil() {
        for (int oil : new int[] {0, 1, 9, 10, 98, 99}) {
            TunnelLamps x = Twins.made(y -> {
                y.gallery(1);
                for (int l = 0; l < 7; l++) {
                    y.lamp(0, 0, 1, 50);
                }
                y.lamp(0, 0, 1, oil);
            });
            for (int nn = 0; nn <= 99; nn++) {
                isSo("oil " + oil + ", at least " + nn, oil >= nn, passes(x, 1, 870000 + nn));
            }
            isSo("no such lamp", false, passes(x, 1, 880000));
        }
    }

    private static void testsOrders() {
        for (int many = 0; many <= 6; many++) {
            int orders = many;
            TunnelLamps x = Twins.made(y -> all(y, orders));
            for (int n = 0; n <= 9; n++) {
                isSo(orders + " orders, at most " + n, orders <= n, passes(x, 1, 900000 + n));
            }
        }
    }

    /** Tries every group, each in the place of every digit, against what the document says of such a mine. */
    private static void everyGroup(Twins.Setup setup) {
        boolean[] isGood = goodGroups(Twins.made(setup));
        TunnelLamps x = Twins.made(setup);
        for (int group = 0; group < GROUPS; group++) {
            if (group % CALLS == 0) {
                x = Twins.made(setup);
            }
            if ((x.runScript(1, group) == NONE) != isGood[group]) {
                throw new AssertionError("group " + group + ": due is " + isGood[group]);
            }
        }
    }

    private static boolean[] goodGroups(TunnelLamps x) {
        boolean[] isGood = new boolean[GROUPS];
        int orders = x.about(10);
        for (int nn = 1; nn <= 60; nn++) {
            isGood[100000 + nn] = true;
        }
        for (int v = 0; v <= 12; v++) {
            isGood[400000 + 10 * v] = true;
            isGood[410000 + 10 * v] = v <= 1;
        }
        for (int n = orders; n <= 9; n++) {
            isGood[900000 + n] = true;
        }
        goodWithLamps(isGood, x, orders < 6);
        goodWithGalleries(isGood, x);
        return isGood;
    }

    private static void goodWithLamps(boolean[] isGood, TunnelLamps x, boolean hasRoom) {
        int lamps = x.about(2);
        int galleries = x.about(0);
        for (int l = 0; l < lamps; l++) {
            int oil = x.lampOf(l, 1);
            for (int nn = 0; nn <= 99; nn++) {
                isGood[300000 + 10000 * l + 10 * nn] = hasRoom && nn > 0;
                isGood[800000 + 10000 * l + nn] = nn <= oil;
            }
            for (int g = 0; g < galleries; g++) {
                int depth = x.galleryOf(g, 0);
                for (int c = 0; c < depth; c++) {
                    isGood[200000 + 10000 * l + 1000 * g + 10 * c] = hasRoom;
                }
            }
        }
    }

    private static void goodWithGalleries(boolean[] isGood, TunnelLamps x) {
        int miners = x.about(1);
        int galleries = x.about(0);
        for (int g = 0; g < galleries; g++) {
            for (int m = 0; m < miners; m++) {
                isGood[500000 + 10000 * m + 1000 * g] = true;
            }
            isGood[600000 + 10000 * g + x.galleryOf(g, 3)] = true;
            for (int nn = x.galleryOf(g, 0); nn >= 0; nn--) {
                isGood[700000 + 10000 * g + nn] = true;
            }
        }
    }

    private static void decimalNumbers() {
        TunnelLamps x = Twins.made(EdgeScriptTests::some);
        isSo("10 hours", true, passes(x, 2, 100010_800033L));
        isSo("10 hours, of 40 and 3", false, passes(x, 2, 100010_800034L));
        isSo("nn 09", true, passes(x, 1, 700009));
        isSo("nn 10", false, passes(x, 1, 700010));
        isSo("cc 11", true, passes(x, 1, 201110));
        isSo("cc 12", false, passes(x, 1, 201120));
        isSo("vv 12", true, passes(x, 1, 400120));
        isSo("vv 13", false, passes(x, 1, 400130));
        isSo("nn 60", true, passes(x, 1, 100060));
        isSo("nn 61", false, passes(x, 1, 100061));
    }

    private static void mostDigits() {
        TunnelLamps x = Twins.made(EdgeScriptTests::some);
        Check.equal("six digits", 0, x.runScript(1, 999999L));
        Check.equal("twelve digits", 0, x.runScript(2, 999999_999999L));
        Check.equal("eighteen digits", 0, x.runScript(3, 999999_999999_999999L));
        Check.equal("eighteen digits, the last fails", 2, x.runScript(3, 900009_900009_999999L));
        Check.equal("no digit but 0", 0, x.runScript(1, 0L));
        Check.equal("one digit", 0, x.runScript(2, 9L));
        Check.equal("six digits of twelve", 0, x.runScript(2, 900009L));
    }

    private static void firstThatFails() {
        TunnelLamps x = Twins.made(EdgeScriptTests::some);
        long good = 100001;
        long bad = 100000;
        for (int n = 1; n <= 3; n++) {
            for (int pattern = 0; pattern < 1 << n; pattern++) {
                long script = 0;
                int due = NONE;
                for (int i = 0; i < n; i++) {
                    boolean isGood = (pattern >> i & 1) == 0;
                    script = script * GROUPS + (isGood ? good : bad);
                    due = due == NONE && !isGood ? i : due;
                }
                Check.equal(n + " commands, pattern " + pattern, due, x.runScript(n, script));
            }
        }
    }

    private static void scriptOutOfRange() {
        long[] tooLong = {1000000L, 1000000_000000L, 1000000_000000_000000L};
        for (int n = 1; n <= 3; n++) {
            int commands = n;
            for (long script : new long[] {-1, Long.MIN_VALUE, Long.MAX_VALUE, Integer.MIN_VALUE, tooLong[n - 1],
                tooLong[2], -900009}) {
                Twins.refused(n + ", " + script, Check.OUT_OF_RANGE, Twins::busy, x -> x.runScript(commands, script));
            }
        }
        Twins.refused("n and script", Check.OUT_OF_RANGE, Twins::busy, x -> x.runScript(0, -1));
        Twins.refused("a script of 2 ^ 32 and a good group", Check.OUT_OF_RANGE, Twins::busy,
                x -> x.runScript(1, (1L << 32) + 100001));
    }

    private static void overflowingN() {
        // 6 * 715827883 is 2 to an int, 6 * 357913942 is -4, and 6 * 1431655766 is 4.
        for (int n : new int[] {715827883, 357913942, 1431655766, Integer.MAX_VALUE, Integer.MIN_VALUE}) {
            Twins.refused("n " + n, Check.OUT_OF_RANGE, Twins::busy, x -> x.runScript(n, 0));
            Twins.refused("n " + n, Check.OUT_OF_RANGE, Twins::busy, x -> x.runScript(n, 9));
        }
    }

    /** The seed with which x has this r, and these lower 33 bits, in the first turn. */
    private static long seedFor(int r, long lower) {
        BigInteger all = BigInteger.ONE.shiftLeft(64);
        long inverse = BigInteger.valueOf(FACTOR).modInverse(all).longValue();
        return (((long) r << 33 | lower) - ADDED) * inverse;
    }

    /** The seed with which the first turn has this r, and the second one lets twelve hours go by. */
    private static long seedWithHours(int r, int salt) {
        for (long lower = salt; ; lower += 1000003) {
            long seed = seedFor(r, lower & ((1L << 33) - 1));
            long x = (seed * FACTOR + ADDED) * FACTOR + ADDED;
            int second = (int) (x >>> 33);
            if (second % 16 >= 10 && second / 16 % 12 == 11) {
                return seed;
            }
        }
    }

    private static void turn(TunnelLamps x, int r) {
        int q = r / 16;
        switch (r % 16) {
            case 0 -> x.gallery(1 + q % 30);
            case 1, 2 -> x.miner(q % 3, 1 + q / 4 % 5);
            case 3 -> x.lamp(q % 3, q / 4 % 30, 1 + q / 128 % 9, q / 2048 % 100);
            case 4 -> x.store(q % 200);
            case 5, 6 -> x.hang(q % 8, q / 8 % 3, q / 32 % 40);
            case 7 -> x.fill(q % 8, 1 + q / 8 % 99);
            case 8 -> x.set(q / 16 % 2 == 0 ? 0 : 1, q / 16 % 2 == 0 ? q % 13 : q % 2);
            case 9 -> x.send(q % 6, q / 8 % 3);
            default -> x.hours(1 + q % 12);
        }
    }

    /** The simulation, done by calls of a mine of its own. */
    private static int byCalls(Twins.Setup setup, long seed, int m) {
        TunnelLamps x = Twins.made(setup);
        int dug = x.about(12);
        int dark = x.about(11);
        long state = seed;
        for (int i = 0; i < m; i++) {
            state = state * FACTOR + ADDED;
            int r = (int) (state >>> 33);
            Check.outcome(() -> {
                turn(x, r);
                return 0;
            });
        }
        return 1000 * (x.about(12) - dug) + Math.min(999, x.about(11) - dark);
    }

    private static int same(String what, Twins.Setup setup, long seed, int m) {
        int due = byCalls(setup, seed, m);
        Check.equal(what + ", seed " + seed + ", m " + m, due, Twins.made(setup).simulate(seed, m));
        return due;
    }

    private static void simulatesOnCopy() {
        for (long seed : new long[] {0, 7, -1}) {
            Twins.leftAlone("seed " + seed, Twins::busy, x -> x.simulate(seed, 60));
            Twins.leftAlone("seed " + seed, Twins::busyWithLamp, x -> x.simulate(seed, 1));
        }
    }

    /** In a new mine with a miner in the dark a turn of hours shows their number. */
    private static void oneMiner(TunnelLamps x) {
        x.gallery(1);
        x.miner(0, 1);
    }

    private static void startsAsSeed() {
        for (int hours = 1; hours <= 12; hours++) {
            int r = 16 * (hours - 1) + 10;
            Check.equal("hours", hours, Twins.made(EdgeScriptTests::oneMiner).simulate(seedFor(r, 5), 1));
        }
        for (long seed = -50; seed <= 50; seed++) {
            same("a small seed", Twins::busy, seed, 20);
            same("a small seed", Twins::full, seed, 20);
        }
    }

    private static void overflowingX() {
        for (long seed : new long[] {Long.MAX_VALUE, Long.MIN_VALUE, Long.MAX_VALUE - 1, Long.MIN_VALUE + 1, 1L << 62,
            -(1L << 62), 1L << 32, -(1L << 32), 1L << 31, Integer.MAX_VALUE, Integer.MIN_VALUE, 0, -1, 1}) {
            for (int m : new int[] {1, 2, 3, 10, 60}) {
                same("an end", Twins::busy, seed, m);
                same("an end", EdgeScriptTests::some, seed, m);
            }
        }
    }

    private static void greatestR() {
        TunnelLamps x = Twins.made(EdgeScriptTests::oneMiner);
        // The greatest r is 16 * 134217727 + 15, and 134217727 modulo 12 is 7.
        Check.equal("the greatest r", 8, x.simulate(seedFor(Integer.MAX_VALUE, 0), 1));
        Check.equal("the greatest x", 8, x.simulate(seedFor(Integer.MAX_VALUE, (1L << 33) - 1), 1));
        // 16 * 67108864 + 10, and 67108864 modulo 12 is 4.
        Check.equal("an r with its highest bit set", 5, x.simulate(seedFor((1 << 30) + 10, 0), 1));
        Check.equal("lower bits are not looked at", 1, x.simulate(seedFor(10, 0), 1));
        Check.equal("lower bits are not looked at", 1, x.simulate(seedFor(10, (1L << 33) - 1), 1));
    }

    private static void roundedDown() {
        TunnelLamps x = Twins.made(EdgeScriptTests::oneMiner);
        for (int q = 0; q < 24; q++) {
            Check.equal("just q", 1 + q % 12, x.simulate(seedFor(16 * q + 10, 0), 1));
            Check.equal("all but the next q", 1 + q % 12, x.simulate(seedFor(16 * q + 15, 0), 1));
        }
    }

    /** A mine in which what is done in a turn is soon seen: light that ends, oil to come, a lad who waits. */
    private static void eager(TunnelLamps x) {
        x.gallery(11);
        x.gallery(8);
        x.miner(0, 4);
        x.miner(1, 3);
        x.miner(1, 2);
        x.lamp(0, 10, 1, 30);
        x.lamp(1, 0, 9, 3);
        x.lamp(1, 7, 9, 0);
        x.lamp(0, 3, 9, 12);
    }

    private static void noMiner(TunnelLamps x) {
        x.gallery(9);
        x.gallery(9);
        x.gallery(9);
        for (int g = 0; g < 3; g++) {
            x.lamp(g, 0, 9, 99);
            x.lamp(g, 8, 9, 0);
        }
        x.fill(1, 99);
        x.set(0, 8);
    }

    private static void firstTurns(int kind) {
        Twins.Setup[] setups = {EdgeScriptTests::some, EdgeScriptTests::eager, EdgeScriptTests::noMiner, x -> { }};
        int many = 0;
        for (int i = 0; i < 150; i++) {
            int q = i < 140 ? i * i * 37 + i * 13 : (1 << 27) - 1 - (i - 140);
            int r = 16 * q + kind;
            for (Twins.Setup setup : setups) {
                long seed = seedWithHours(r, i);
                same("r " + r, setup, seed, 1);
                same("r " + r, setup, seed, 2);
                many += same("r " + r, setup, seed, 30) > 0 ? 1 : 0;
            }
        }
        isSo("most of them dig or wait in the dark", true, many > 300);
    }

    private static void hoursOfTurn() {
        for (int kind = 10; kind < 16; kind++) {
            for (int q = 0; q < 40; q++) {
                int r = 16 * q + kind;
                Check.equal("r " + r, 1 + q % 12, Twins.made(EdgeScriptTests::oneMiner).simulate(seedFor(r, q), 1));
            }
        }
        for (int kind = 0; kind < 10; kind++) {
            Check.equal("kind " + kind, 0, Twins.made(EdgeScriptTests::oneMiner).simulate(seedFor(16 * 11 + kind, 3), 1));
        }
    }

    private static void leftOut() {
        for (int kind = 0; kind < 10; kind++) {
            long seed = seedWithHours(16 * 134217 + kind, 77);
            Check.equal("nothing there", 0, new TunnelLamps().simulate(seed, 1));
            same("all there may be", x -> all(x, 6), seed, 40);
            same("nothing there", x -> { }, seed, 40);
        }
        // 16 * 3 is gallery(4); there are three already, and the hours go by all the same.
        long seed = seedWithHours(16 * 3, 5);
        TunnelLamps x = Twins.made(y -> {
            oneMiner(y);
            y.gallery(1);
            y.gallery(1);
        });
        Check.equal("a fourth gallery", 12, x.simulate(seed, 2));
    }

    private static void anySeed() {
        TunnelLamps x = Twins.made(EdgeScriptTests::some);
        for (long seed : new long[] {Long.MIN_VALUE, -1, 0, 1, Long.MAX_VALUE}) {
            long answer = x.simulate(seed, 60);
            Check.equal("the same again", answer, x.simulate(seed, 60));
            Check.equal("seed " + seed, byCalls(EdgeScriptTests::some, seed, 60), answer);
        }
    }

    private static void turns() {
        for (int m = 1; m <= 60; m++) {
            same("turns", EdgeScriptTests::some, 123456789L, m);
            same("turns", EdgeScriptTests::oneMiner, -987654321012345L, m);
        }
        Twins.refusedOutside("m", 1, 60, Check.OUT_OF_RANGE, Twins::busyWithLamp, (x, m) -> x.simulate(0, m));
    }

    private static void fiveInTheDark(TunnelLamps x) {
        for (int g = 0; g < 3; g++) {
            x.gallery(1);
        }
        for (int m = 0; m < 5; m++) {
            x.miner(0, 1);
        }
    }

    /** The hours in the dark of these seeds, found by trying. */
    private static void darkHours() {
        int[][] seedsAndHours = {{2488, 998}, {399, 999}, {2820, 1000}, {1090, 1001}, {1273, 997}};
        for (int[] row : seedsAndHours) {
            TunnelLamps x = Twins.made(EdgeScriptTests::fiveInTheDark);
            Check.equal("seed " + row[0], Math.min(999, row[1]), x.simulate(row[0], 60));
            long state = row[0];
            for (int i = 0; i < 60; i++) {
                state = state * FACTOR + ADDED;
                int r = (int) (state >>> 33);
                Check.outcome(() -> {
                    turn(x, r);
                    return 0;
                });
            }
            Check.equal("hours in the dark by calls", row[1], x.about(11));
        }
    }

    private static void inTheTurns() {
        Twins.Setup worked = x -> {
            eager(x);
            x.hours(20);
        };
        TunnelLamps x = Twins.made(worked);
        isSo("cells were dug before", true, x.about(12) > 0);
        isSo("there were hours in the dark before", true, x.about(11) > 0);
        for (long seed = 0; seed < 30; seed++) {
            same("a mine in which much was done", worked, seed * 1234567890123L, 60);
        }
        Check.equal("nothing in a turn without hours", 0, x.simulate(seedFor(16 * 5 + 4, 0), 1));
    }
}
