/**
 * Two mines made by the same calls, one of which is asked for something that must leave no trace: behind it, whatever
 * any other call shows of the two is alike. Showing some things changes others, so each probe has twins of its own.
 */
final class Twins {
    interface Setup {
        void on(TunnelLamps x);
    }

    interface Ask {
        long of(TunnelLamps x);
    }

    private interface Probe {
        String of(TunnelLamps x);
    }

    private static final int[] ENDS = {Integer.MIN_VALUE, Integer.MIN_VALUE + 1, Integer.MAX_VALUE - 1,
        Integer.MAX_VALUE, 1 << 8, 1 << 16, 1 << 30, -(1 << 8), -(1 << 16), -(1 << 30)};

    private Twins() { }

    /** The call throws this very exception, and no call shows a change. */
    static void refused(String what, Class<?> due, Setup setup, Ask ask) {
        for (Probe probe : probes()) {
            TunnelLamps asked = made(setup);
            Check.same(what, due.getSimpleName(), Check.outcome(() -> ask.of(asked)));
            Check.same(what + " changes nothing", probe.of(made(setup)), probe.of(asked));
        }
    }

    /** The call answers, twice the same, and no call shows a change. */
    static void leftAlone(String what, Setup setup, Ask ask) {
        for (Probe probe : probes()) {
            TunnelLamps asked = made(setup);
            long answer = ask.of(asked);
            Check.equal(what + " again", answer, ask.of(asked));
            Check.same(what + " changes nothing", probe.of(made(setup)), probe.of(asked));
        }
    }

    /** A call with one argument, given the first numbers on either side of its range, and those at the ends of int. */
    interface AskOne {
        long of(TunnelLamps x, int argument);
    }

    static void refusedOutside(String what, int low, int high, Class<?> due, Setup setup, AskOne ask) {
        refused(what + " " + (low - 1), due, setup, x -> ask.of(x, low - 1));
        refused(what + " " + (high + 1), due, setup, x -> ask.of(x, high + 1));
        TunnelLamps asked = made(setup);
        String before = seen(asked);
        for (int end : ENDS) {
            // Besides the end itself a number that would be a good one if only its last bits were looked at.
            for (int number : new int[] {end, end + high}) {
                if (number < low || number > high) {
                    Check.same(what + " " + number, due.getSimpleName(), Check.outcome(() -> ask.of(asked, number)));
                }
            }
        }
        Check.same(what + " changes nothing", before, seen(asked));
    }

    static TunnelLamps made(Setup setup) {
        TunnelLamps x = new TunnelLamps();
        setup.on(x);
        return x;
    }

    /** Something of everything; the lad is on his way with oil, slot 0 is used, slot 1 is not. */
    static void busy(TunnelLamps x) {
        Check.write(x, "Tg07m01l003244s090h0006t02");
        x.gallery(9);
        x.gallery(12);
        x.miner(0, 2);
        x.miner(1, 3);
        x.lamp(0, 7, 3, 60);
        x.lamp(1, 4, 2, 30);
        x.store(100);
        x.save(0);
        x.set(0, 3);
        x.fill(0, 20);
        x.hang(1, 0, 2);
        x.hours(1);
        x.set(1, 1);
    }

    /** As busy, with as many states remembered as may be, and the lad on his way with a lamp. */
    static void busyWithLamp(TunnelLamps x) {
        busy(x);
        x.fill(0, 9);
        x.hang(0, 0, 5);
        x.hours(6);
        x.save(1);
        x.send(1, 0);
    }

    /** As many of everything as there may be but oil; in the next hours each account of the mine becomes different. */
    static void full(TunnelLamps x) {
        x.gallery(9);
        x.gallery(59);
        x.gallery(6);
        for (int i = 0; i < 8; i++) {
            x.lamp(i % 3, i % 3 == 1 ? 57 : 3 + i % 3, 2 + i % 2, i < 5 ? 95 + i : i);
            if (i < 6) {
                x.miner(i % 3, 1 + i % 5);
            }
        }
        x.store(300);
        x.set(0, 5);
        x.fill(0, 60);
        x.fill(4, 90);
        x.hours(2);
        x.set(1, 1);
        x.hang(2, 0, 8);
        x.fill(0, 99);
        x.hang(5, 1, 0);
        x.fill(6, 1);
        x.hang(0, 0, 8);
    }

    static Setup busyAnd(Setup more) {
        return x -> {
            busy(x);
            more.on(x);
        };
    }

    private static Probe[] probes() {
        return new Probe[] {Twins::seen, Twins::settings, Twins::takenBack, x -> restored(x, 0), x -> restored(x, 1),
            Twins::text, Twins::loaded, Twins::oneMoreAction};
    }

    private static String seen(TunnelLamps x) {
        return Check.look(x) + foreseen(x);
    }

    private static String foreseen(TunnelLamps x) {
        StringBuilder seen = new StringBuilder("; foreseen");
        Check.Call[] calls = {() -> x.lit(0, 0), () -> x.lit(0, 1), () -> x.lit(1, 0), () -> x.darkIn(0),
            () -> x.darkIn(1), () -> x.depthIn(0, 200), () -> x.depthIn(1, 30), x::doneIn, () -> x.bestCell(0, 0, 20),
            () -> x.steps(0, 0, 1, 3), () -> x.runScript(3, 100003_800050_900001L), () -> x.simulate(7, 50),
            () -> x.simulate(-9, 60)};
        for (Check.Call call : calls) {
            seen.append(' ').append(Check.outcome(call));
        }
        return seen.toString();
    }

    private static String settings(TunnelLamps x) {
        return x.set(0, 5) + " " + x.set(1, 0);
    }

    private static String takenBack(TunnelLamps x) {
        StringBuilder seen = new StringBuilder();
        for (int i = 0; i < 16 && !seen.toString().contains("Exception"); i++) {
            seen.append(Check.outcome(x::undo)).append(": ");
            seen.append(x.about(0)).append(' ').append(x.about(1)).append(' ').append(x.about(2)).append(' ');
            seen.append(x.about(3)).append(' ').append(x.about(10)).append(' ').append(x.about(4)).append(' ');
            seen.append(x.doneIn()).append(' ').append(Check.outcome(() -> x.depthIn(0, 90))).append('\n');
        }
        return seen + Check.look(x) + settings(x);
    }

    private static String restored(TunnelLamps x, int slot) {
        return Check.outcome(() -> x.restore(slot)) + Check.look(x) + Check.outcome(x::undo) + settings(x);
    }

    private static String text(TunnelLamps x) {
        return x.errorPosition() + " " + x.clearText();
    }

    private static String loaded(TunnelLamps x) {
        return Check.outcome(x::load) + Check.look(x) + x.clearText();
    }

    /** Behind one more action the states are remembered in the same order, and hours go by in the same way. */
    private static String oneMoreAction(TunnelLamps x) {
        return x.hours(9) + Check.look(x) + x.undo() + Check.look(x) + Check.outcome(x::undo) + Check.look(x);
    }
}
