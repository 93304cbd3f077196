import java.util.List;

/** Promises 29 and 30: scripts and simulations. */
final class ScriptTests {
    private static final int NONE = TunnelLamps.NONE;

    private ScriptTests() { }

    static void addTo(List<Check.Test> tests) {
        tests.add(new Check.Test("promise 29: hours", ScriptTests::hours));
        tests.add(new Check.Test("promise 29: hang", ScriptTests::hang));
        tests.add(new Check.Test("promise 29: fill", ScriptTests::fill));
        tests.add(new Check.Test("promise 29: set", ScriptTests::set));
        tests.add(new Check.Test("promise 29: send", ScriptTests::send));
        tests.add(new Check.Test("promise 29: is the face lit", ScriptTests::testLight));
        tests.add(new Check.Test("promise 29: is it deep enough", ScriptTests::testDepth));
        tests.add(new Check.Test("promise 29: is there oil enough", ScriptTests::testOil));
        tests.add(new Check.Test("promise 29: are there few orders", ScriptTests::testOrders));
        tests.add(new Check.Test("promise 29: groups that are no command", ScriptTests::noCommand));
        tests.add(new Check.Test("promise 29: the first that fails", ScriptTests::firstThatFails));
        tests.add(new Check.Test("promise 29: runScript refuses", ScriptTests::runScriptRefuses));
        tests.add(new Check.Test("promise 30: simulate, turn by turn", ScriptTests::simulate));
        tests.add(new Check.Test("promise 30: more than 999 hours in the dark", ScriptTests::simulateDark));
        tests.add(new Check.Test("promise 30: simulate refuses", ScriptTests::simulateRefuses));
    }

    /** A gallery of 9 that is lit, and one of 12 that is dark; two miners; a lamp of 40 and one without oil. */
    private static TunnelLamps mine() {
        TunnelLamps x = new TunnelLamps();
        x.gallery(9);
        x.gallery(12);
        x.miner(0, 2);
        x.miner(1, 3);
        x.lamp(0, 8, 3, 40);
        x.lamp(1, 4, 1, 0);
        x.store(100);
        return x;
    }

    private static void good(String what, TunnelLamps x, int n, long script) {
        Check.equal(what, NONE, x.runScript(n, script));
    }

    private static void bad(String what, TunnelLamps x, long group) {
        Check.equal(what, 0, x.runScript(1, group));
    }

    private static void hours() {
        TunnelLamps x = mine();
        good("1 and 60 hours", x, 2, 100001_100060L);
        bad("no hour", x, 100000);
        bad("61 hours", x, 100061);
        good("three hours burn three", x, 2, 100003_800037L);
        Check.equal("and not less", 1, x.runScript(2, 100003_800038L));
        Check.equal("the lamp as it was", 40, x.lampOf(0, 1));
    }

    private static void hang() {
        TunnelLamps x = mine();
        good("hang", x, 1, 201110);
        Check.equal("it is an order", 1, x.runScript(2, 201110_900000L));
        good("it is one order", x, 2, 201110_900001L);
        good("it is hung there, and the face is lit", x, 3, 201110_100007_610001L);
        bad("no such lamp", x, 220000);
        bad("no such gallery", x, 202000);
        bad("the face", x, 201120);
        for (int k = 0; k < 6; k++) {
            x.hang(0, 0, 1);
        }
        bad("a seventh", x, 201110);
    }

    private static void fill() {
        TunnelLamps x = mine();
        good("fill with 99", x, 3, 310990_100001_810099L);
        good("fill with 7", x, 3, 310070_100001_810007L);
        Check.equal("and not more", 2, x.runScript(3, 310070_100001_810008L));
        bad("fill with 0", x, 310000);
        bad("no such lamp", x, 320010);
        for (int k = 0; k < 6; k++) {
            x.fill(0, 1);
        }
        bad("a seventh", x, 310990);
    }

    private static void set() {
        TunnelLamps x = mine();
        x.hang(0, 0, 0);
        good("twelve steps, then eight more", x, 3, 400120_100002_900000L);
        Check.equal("no steps", 2, x.runScript(3, 400000_100060_900000L));
        bad("thirteen steps", x, 400130);
        good("setting 1", x, 1, 410010);
        bad("setting 1 is at most 1", x, 410020);
        bad("no setting 2", x, 420000);
    }

    private static void send() {
        TunnelLamps x = mine();
        good("both dig here", x, 3, 510000_100002_700010L);
        Check.equal("one alone does not do it", 1, x.runScript(2, 100002_700010L));
        bad("no such miner", x, 520000);
        bad("no such gallery", x, 502000);
    }

    private static void testLight() {
        TunnelLamps x = mine();
        good("lit", x, 1, 600001);
        bad("not dark", x, 600000);
        good("dark", x, 1, 610000);
        bad("not lit", x, 610001);
        bad("no such gallery", x, 620000);
        bad("b above 1", x, 600002);
        bad("b above 1, in the dark", x, 610009);
    }

    private static void testDepth() {
        TunnelLamps x = mine();
        good("at least 0", x, 1, 700000);
        good("at least 9", x, 1, 700009);
        bad("not 10", x, 700010);
        good("at least 12", x, 1, 710012);
        bad("not 13", x, 710013);
        bad("no such gallery", x, 720000);
    }

    private static void testOil() {
        TunnelLamps x = mine();
        good("at least 40", x, 1, 800040);
        bad("not 41", x, 800041);
        good("at least 0", x, 1, 810000);
        bad("not 1", x, 810001);
        bad("no such lamp", x, 820000);
    }

    private static void testOrders() {
        TunnelLamps x = mine();
        good("none", x, 1, 900000);
        x.fill(0, 1);
        x.fill(0, 1);
        bad("more than 1", x, 900001);
        good("at most 2", x, 1, 900002);
        good("at most 9", x, 1, 900009);
    }

    private static void noCommand() {
        TunnelLamps x = mine();
        for (long group : new long[] {0, 1, 99999, 9, 100001 + 100, 100001 + 1000, 100001 + 10000, 101060, 201111,
            311990, 310991, 401120, 400121, 511100, 511010, 511001, 600101, 600011, 601001, 610100, 700109, 701009,
            800140, 801040, 900010, 900100, 901000, 910000, 110005}) {
            bad("group " + group, x, group);
        }
    }

    private static void firstThatFails() {
        TunnelLamps x = mine();
        Check.equal("the first", 0, x.runScript(3, 100000_100000_100000L));
        Check.equal("the second", 1, x.runScript(3, 100001_100000_100001L));
        Check.equal("the third", 2, x.runScript(3, 100001_100001_100000L));
        Check.equal("none", NONE, x.runScript(3, 100001_100001_100001L));
        Check.equal("zeros before it", 0, x.runScript(2, 100001L));
        Check.equal("zeros before it", 0, x.runScript(3, 100001_100001L));
        Check.equal("nothing but zeros", 0, x.runScript(3, 0L));
        Check.equal("all digits", 0, x.runScript(3, 999999_999999_999999L));
        Check.equal("the state is a copy", 0, x.about(3));
    }

    private static void runScriptRefuses() {
        TunnelLamps x = mine();
        Check.refused("n 0", x, Check.OUT_OF_RANGE, () -> x.runScript(0, 0));
        Check.refused("n 4", x, Check.OUT_OF_RANGE, () -> x.runScript(4, 100001));
        Check.refused("n -1", x, Check.OUT_OF_RANGE, () -> x.runScript(-1, 0));
        Check.refused("negative", x, Check.OUT_OF_RANGE, () -> x.runScript(1, -1));
        Check.refused("most negative", x, Check.OUT_OF_RANGE, () -> x.runScript(3, Long.MIN_VALUE));
        Check.refused("7 digits", x, Check.OUT_OF_RANGE, () -> x.runScript(1, 1000000L));
        Check.refused("13 digits", x, Check.OUT_OF_RANGE, () -> x.runScript(2, 1000000000000L));
        Check.refused("19 digits", x, Check.OUT_OF_RANGE, () -> x.runScript(3, 1000000000000000000L));
        Check.refused("most", x, Check.OUT_OF_RANGE, () -> x.runScript(3, Long.MAX_VALUE));
        Check.equal("6 digits", 0, x.runScript(1, 999999L));
        Check.equal("12 digits", 0, x.runScript(2, 999999999999L));
    }

    private static void turn(TunnelLamps x, int r) {
        int q = r / 16;
        switch (r % 16) {
            case 0 -> x.gallery(1 + q % 30);
            case 1, 2 -> x.miner(q % 3, 1 + q / 4 % 5);
            case 3 -> x.lamp(q % 3, q / 4 % 30, 1 + q / 128 % 9, q / 2048 % 100);
            case 4 -> x.store(q % 200);
            case 5, 6 -> x.hang(q % 8, q / 8 % 3, q / 32 % 40);
            case 7 -> x.fill(q % 8, 1 + q / 8 % 99);
            case 8 -> x.set(q / 16 % 2 == 0 ? 0 : 1, q / 16 % 2 == 0 ? q % 13 : q % 2);
            case 9 -> x.send(q % 6, q / 8 % 3);
            default -> x.hours(1 + q % 12);
        }
    }

    /** The simulation, done by calls of a mine of its own. */
    private static int byCalls(TunnelLamps x, long seed, int m) {
        int dug = x.about(12);
        int dark = x.about(11);
        long state = seed;
        for (int i = 0; i < m; i++) {
            state = state * 6364136223846793005L + 1442695040888963407L;
            int r = (int) (state >>> 33);
            Check.outcome(() -> {
                turn(x, r);
                return 0;
            });
        }
        return 1000 * (x.about(12) - dug) + Math.min(999, x.about(11) - dark);
    }

    private static void simulate() {
        int digging = 0;
        for (long seed = -150; seed < 150; seed++) {
            long far = seed * 1234567890123457L;
            int m = 1 + Math.floorMod((int) seed, 60);
            TunnelLamps x = seed % 2 == 0 ? mine() : new TunnelLamps();
            TunnelLamps y = seed % 2 == 0 ? mine() : new TunnelLamps();
            x.hours(3);
            y.hours(3);
            String before = Check.look(x);
            int due = byCalls(y, far, m);
            Check.equal("seed " + far, due, x.simulate(far, m));
            Check.same("seed " + far + " changes nothing", before, Check.look(x));
            digging += due >= 1000 ? 1 : 0;
        }
        Check.equal("many dig", 1, digging > 100 ? 1 : 0);
    }

    private static void simulateDark() {
        TunnelLamps x = new TunnelLamps();
        x.gallery(1);
        for (int m = 0; m < 6; m++) {
            x.miner(0, 1);
        }
        x.hours(60);
        int most = 0;
        for (long seed = 0; seed < 40; seed++) {
            most = Math.max(most, x.simulate(seed, 60) % 1000);
        }
        Check.equal("999 if there are more", 999, most);
    }

    private static void simulateRefuses() {
        TunnelLamps x = mine();
        Check.refused("m 0", x, Check.OUT_OF_RANGE, () -> x.simulate(1, 0));
        Check.refused("m 61", x, Check.OUT_OF_RANGE, () -> x.simulate(1, 61));
        Check.refused("m -1", x, Check.OUT_OF_RANGE, () -> x.simulate(1, -1));
        Check.same("any long", x.simulate(Long.MIN_VALUE, 60) + "", x.simulate(Long.MIN_VALUE, 60) + "");
    }
}
