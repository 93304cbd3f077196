import java.util.List;
import java.util.Random;

/** Long runs of calls, each answer compared with that of the plain mine. The seeds are fixed: runs are always alike. */
final class RandomRunTests {
    private static final int RUNS = 300;
    /** As many as an object is made for. */
    private static final int CALLS = 512;

    private final Random random;
    private final TunnelLamps x = new TunnelLamps();
    private final PlainMine due = new PlainMine();
    private final StringBuilder calls = new StringBuilder();
    /** How many of a hundred numbers are drawn from outside their range. */
    private final int wild;

    private RandomRunTests(int seed) {
        random = new Random(seed);
        wild = seed % 4 == 0 ? 12 : 1;
    }

    static void addTo(List<Check.Test> tests) {
        tests.add(new Check.Test("all promises: random runs", RandomRunTests::runs));
        tests.add(new Check.Test("all promises: any numbers at all", RandomRunTests::anyNumbers));
    }

    private static void runs() {
        for (int seed = 0; seed < RUNS; seed++) {
            RandomRunTests run = new RandomRunTests(seed);
            run.begin();
            while (run.count < CALLS) {
                run.step();
            }
        }
    }

    private int count;

    private void same(String call, Check.Call program, Check.Call plain) {
        if (count == CALLS) {
            return;
        }
        calls.append(call).append('\n');
        count++;
        String want = Check.outcome(plain);
        String got = Check.outcome(program);
        if (!want.equals(got)) {
            throw new AssertionError("due is " + want + ", got " + got + " behind\n" + calls);
        }
    }

    private int number(int low, int high) {
        if (random.nextInt(100) < wild) {
            int[] outside = {low - 1, high + 1, Integer.MIN_VALUE, Integer.MAX_VALUE, -1, random.nextInt()};
            return outside[random.nextInt(outside.length)];
        }
        return low + random.nextInt(high - low + 1);
    }

    private int gallery() {
        return number(0, Math.max(0, due.about(0) - 1));
    }

    private int lamp() {
        return number(0, Math.max(0, due.about(2) - 1));
    }

    private int miner() {
        return number(0, Math.max(0, due.about(1) - 1));
    }

    private int order() {
        return number(0, Math.max(0, due.about(10) - 1));
    }

    private int cell(int g) {
        return number(0, g >= 0 && g < due.about(0) ? due.galleryOf(g, 0) - 1 : 9);
    }

    private void begin() {
        if (random.nextInt(3) == 0) {
            text(10 + random.nextInt(110));
            same("load", x::load, due::load);
        }
        for (int i = 0; i < 2; i++) {
            act(0);
            act(1);
            act(3);
            act(3);
            act(4);
        }
    }

    private void step() {
        int kind = random.nextInt(100);
        if (kind < 45) {
            act(random.nextInt(14));
        } else if (kind < 75) {
            look(random.nextInt(9));
        } else if (kind < 92) {
            foresee(random.nextInt(24));
        } else if (kind < 96) {
            int slot = number(0, 1);
            if (random.nextInt(3) < 2) {
                same("save " + slot, () -> x.save(slot), () -> due.save(slot));
            } else {
                same("restore " + slot, () -> x.restore(slot), () -> due.restore(slot));
            }
        } else if (kind < 98) {
            same("undo", x::undo, due::undo);
        } else if (random.nextInt(6) == 0) {
            text(random.nextInt(60));
            same("load", x::load, due::load);
        }
    }

    private void act(int kind) {
        int g = gallery();
        int l = lamp();
        int c = cell(g);
        switch (kind) {
            case 0: {
                int d = number(1, random.nextInt(3) == 0 ? 60 : 20);
                same("gallery " + d, () -> x.gallery(d), () -> due.gallery(d));
                break;
            }
            case 1: {
                int pace = number(1, 5);
                same("miner " + g + " " + pace, () -> x.miner(g, pace), () -> due.miner(g, pace));
                break;
            }
            case 2: {
                int m = miner();
                same("send " + m + " " + g, () -> x.send(m, g), () -> due.send(m, g));
                break;
            }
            case 3: {
                int reach = number(1, 9);
                int oil = number(0, 99);
                same("lamp " + g + " " + c + " " + reach + " " + oil, () -> x.lamp(g, c, reach, oil),
                        () -> due.lamp(g, c, reach, oil));
                break;
            }
            case 4: {
                int n = number(0, random.nextBoolean() ? 999 : 40);
                same("store " + n, () -> x.store(n), () -> due.store(n));
                break;
            }
            case 5:
            case 6:
                same("hang " + l + " " + g + " " + c, () -> x.hang(l, g, c), () -> due.hang(l, g, c));
                break;
            case 7: {
                int n = number(1, 99);
                same("fill " + l + " " + n, () -> x.fill(l, n), () -> due.fill(l, n));
                break;
            }
            case 8: {
                int k = order();
                same("drop " + k, () -> x.drop(k), () -> due.drop(k));
                break;
            }
            case 9: {
                int what = number(0, 1);
                int v = number(0, what == 0 ? 12 : 1);
                same("set " + what + " " + v, () -> x.set(what, v), () -> due.set(what, v));
                break;
            }
            default: {
                int n = number(1, random.nextInt(6) == 0 ? 60 : 4);
                same("hours " + n, () -> x.hours(n), () -> due.hours(n));
                break;
            }
        }
    }

    private void look(int kind) {
        int g = gallery();
        int m = miner();
        int l = lamp();
        int k = order();
        switch (kind) {
            case 0: {
                int what = number(0, 12);
                same("about " + what, () -> x.about(what), () -> due.about(what));
                break;
            }
            case 1: {
                int what = number(0, 5);
                same("galleryOf " + g + " " + what, () -> x.galleryOf(g, what), () -> due.galleryOf(g, what));
                break;
            }
            case 2: {
                int what = number(0, 3);
                same("minerOf " + m + " " + what, () -> x.minerOf(m, what), () -> due.minerOf(m, what));
                break;
            }
            case 3: {
                int what = number(0, 4);
                same("lampOf " + l + " " + what, () -> x.lampOf(l, what), () -> due.lampOf(l, what));
                break;
            }
            case 4:
            case 5: {
                int what = number(0, 3);
                same("lad " + what, () -> x.lad(what), () -> due.lad(what));
                break;
            }
            case 6: {
                int what = number(0, 3);
                same("orderOf " + k + " " + what, () -> x.orderOf(k, what), () -> due.orderOf(k, what));
                break;
            }
            default: {
                int way = number(0, 1);
                same("lit " + g + " " + way, () -> x.lit(g, way), () -> due.lit(g, way));
                break;
            }
        }
    }

    private void foresee(int kind) {
        int g = gallery();
        int l = lamp();
        if (kind < 5) {
            same("darkIn " + g, () -> x.darkIn(g), () -> due.darkIn(g));
        } else if (kind < 9) {
            int n = number(1, 200);
            same("depthIn " + g + " " + n, () -> x.depthIn(g, n), () -> due.depthIn(g, n));
        } else if (kind < 13) {
            same("doneIn", x::doneIn, due::doneIn);
        } else if (kind < 14) {
            int n = number(1, 100);
            same("bestCell " + l + " " + g + " " + n, () -> x.bestCell(l, g, n), () -> due.bestCell(l, g, n));
        } else if (kind < 17) {
            int c = cell(g);
            int g2 = gallery();
            int c2 = cell(g2);
            same("steps " + g + " " + c + " " + g2 + " " + c2, () -> x.steps(g, c, g2, c2),
                    () -> due.steps(g, c, g2, c2));
        } else if (kind < 22) {
            int n = number(1, 3);
            long script = script();
            same("runScript " + n + " " + script, () -> x.runScript(n, script), () -> due.runScript(n, script));
        } else {
            long seed = random.nextLong();
            int m = number(1, 60);
            same("simulate " + seed + " " + m, () -> x.simulate(seed, m), () -> due.simulate(seed, m));
        }
    }

    private long script() {
        if (random.nextInt(100) < wild) {
            return random.nextLong();
        }
        long script = 0;
        int groups = 1 + random.nextInt(3);
        for (int i = 0; i < groups; i++) {
            script = script * 1000000 + group();
        }
        return script;
    }

    private int group() {
        int first = random.nextInt(3);
        int two = random.nextInt(30);
        switch (random.nextInt(12)) {
            case 0:
            case 1: return 100000 + random.nextInt(62);
            case 2:
            case 3: return 200000 + first * 10000 + random.nextInt(3) * 1000 + random.nextInt(15) * 10;
            case 4: return 300000 + first * 10000 + random.nextInt(100) * 10;
            case 5: return 400000 + random.nextInt(2) * 10000 + random.nextInt(4) * 10;
            case 6: return 500000 + first * 10000 + random.nextInt(3) * 1000;
            case 7: return 600000 + first * 10000 + random.nextInt(3);
            case 8: return 700000 + first * 10000 + two;
            case 9: return 800000 + first * 10000 + two;
            case 10: return 900000 + random.nextInt(7);
            default: return random.nextInt(1000000);
        }
    }

    /** Writes a text that is a mine, or is one but for a character. */
    private void text(int length) {
        StringBuilder text = new StringBuilder("T");
        while (text.length() < length) {
            String part = part();
            if (text.length() + part.length() > 120) {
                break;
            }
            text.append(part);
        }
        if (random.nextInt(4) == 0) {
            String signs = "Tgmlshfat0123456789 :/x";
            text.setCharAt(random.nextInt(text.length()), signs.charAt(random.nextInt(signs.length())));
        }
        if (random.nextInt(8) == 0) {
            text.setLength(random.nextInt(text.length() + 1));
        }
        same("clearText", x::clearText, due::clearText);
        for (int i = 0; i < text.length(); i++) {
            int sign = text.charAt(i);
            same("append " + sign, () -> x.append(sign), () -> due.append(sign));
        }
        same("errorPosition", x::errorPosition, due::errorPosition);
    }

    private String part() {
        int g = random.nextInt(100) < 90 ? random.nextInt(2) : 2;
        int c = random.nextInt(100) < 90 ? random.nextInt(12) : random.nextInt(60);
        int l = random.nextInt(4);
        switch (random.nextInt(9)) {
            case 0: return String.format("g%02d", 1 + random.nextInt(60));
            case 1: return "m" + g + (1 + random.nextInt(5));
            case 2:
            case 3: return String.format("l%d%02d%d%02d", g, c, 1 + random.nextInt(9), random.nextInt(100));
            case 4: return String.format("s%03d", random.nextInt(1000));
            case 5: return String.format("h%d%d%02d", l, g, c);
            case 6: return String.format("f%d%02d", l, 1 + random.nextInt(99));
            case 7: return "a" + random.nextInt(2);
            default: return String.format("t%02d", 1 + random.nextInt(60));
        }
    }

    /** Numbers from everywhere: what is thrown is what the document names, never what the machine throws. */
    private static void anyNumbers() {
        for (int seed = 0; seed < 60; seed++) {
            RandomRunTests run = new RandomRunTests(1000 + seed);
            run.begin();
            for (int i = 0; i < 300; i++) {
                run.anyCall();
            }
        }
    }

    private int any() {
        int[] known = {0, 1, 2, 3, 5, 6, 7, 8, 9, 12, 13, 59, 60, 61, 99, 100, 120, 200, 255, 256, 999, 1000, -1, -2,
            Integer.MIN_VALUE, Integer.MAX_VALUE, Integer.MIN_VALUE + 1, 1 << 16, 1 << 30};
        return random.nextInt(5) == 0 ? random.nextInt() : known[random.nextInt(known.length)];
    }

    private void anyCall() {
        int a = any();
        int b = any();
        int c = any();
        int d = any();
        long far = random.nextInt(4) == 0 ? Long.MIN_VALUE + a : (long) a * b;
        String numbers = " of " + a + " " + b + " " + c + " " + d + " " + far;
        switch (random.nextInt(26)) {
            case 0 -> same("append" + numbers, () -> x.append(a), () -> due.append(a));
            case 1 -> same("about" + numbers, () -> x.about(a), () -> due.about(a));
            case 2 -> same("galleryOf" + numbers, () -> x.galleryOf(a, b), () -> due.galleryOf(a, b));
            case 3 -> same("minerOf" + numbers, () -> x.minerOf(a, b), () -> due.minerOf(a, b));
            case 4 -> same("lampOf" + numbers, () -> x.lampOf(a, b), () -> due.lampOf(a, b));
            case 5 -> same("lad" + numbers, () -> x.lad(a), () -> due.lad(a));
            case 6 -> same("orderOf" + numbers, () -> x.orderOf(a, b), () -> due.orderOf(a, b));
            case 7 -> same("lit" + numbers, () -> x.lit(a, b), () -> due.lit(a, b));
            case 8 -> same("gallery" + numbers, () -> x.gallery(a), () -> due.gallery(a));
            case 9 -> same("miner" + numbers, () -> x.miner(a, b), () -> due.miner(a, b));
            case 10 -> same("send" + numbers, () -> x.send(a, b), () -> due.send(a, b));
            case 11 -> same("lamp" + numbers, () -> x.lamp(a, b, c, d), () -> due.lamp(a, b, c, d));
            case 12 -> same("store" + numbers, () -> x.store(a), () -> due.store(a));
            case 13 -> same("hang" + numbers, () -> x.hang(a, b, c), () -> due.hang(a, b, c));
            case 14 -> same("fill" + numbers, () -> x.fill(a, b), () -> due.fill(a, b));
            case 15 -> same("drop" + numbers, () -> x.drop(a), () -> due.drop(a));
            case 16 -> same("set" + numbers, () -> x.set(a, b), () -> due.set(a, b));
            case 17 -> same("hours" + numbers, () -> x.hours(a), () -> due.hours(a));
            case 18 -> same("darkIn" + numbers, () -> x.darkIn(a), () -> due.darkIn(a));
            case 19 -> same("depthIn" + numbers, () -> x.depthIn(a, b), () -> due.depthIn(a, b));
            case 20 -> same("bestCell" + numbers, () -> x.bestCell(a, b, c), () -> due.bestCell(a, b, c));
            case 21 -> same("steps" + numbers, () -> x.steps(a, b, c, d), () -> due.steps(a, b, c, d));
            case 22 -> same("runScript" + numbers, () -> x.runScript(a, far), () -> due.runScript(a, far));
            case 23 -> same("simulate" + numbers, () -> x.simulate(far, a), () -> due.simulate(far, a));
            case 24 -> same("save" + numbers, () -> x.save(a), () -> due.save(a));
            default -> same("restore" + numbers, () -> x.restore(a), () -> due.restore(a));
        }
    }
}
