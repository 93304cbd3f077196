/** What the tests have in common. */
final class Check {
    static final Class<?> NO_SUCH = IndexOutOfBoundsException.class;
    static final Class<?> OUT_OF_RANGE = IllegalArgumentException.class;
    static final Class<?> NOT_POSSIBLE = IllegalStateException.class;

    /** The words are the document's own, in the section named, if the test is one of a single sentence. */
    record Test(String name, Runnable body, String section, String words) {
        Test(String name, Runnable body) {
            this(name, body, "", "");
        }
    }

    interface Call {
        long answer();
    }

    private Check() { }

    static void equal(String what, long due, long got) {
        if (due != got) {
            throw new AssertionError(what + ": due is " + due + ", got " + got);
        }
    }

    static void same(String what, String due, String got) {
        if (!due.equals(got)) {
            throw new AssertionError(what + ":\n due is " + due + "\n got    " + got);
        }
    }

    /** The name of the exception's very class, so that one that the machine throws is told apart. */
    static String outcome(Call call) {
        try {
            return String.valueOf(call.answer());
        } catch (RuntimeException thrown) {
            return thrown.getClass().getSimpleName();
        }
    }

    /** Checks that the call throws, with a glance at what may have changed; Twins looks at all, with more calls. */
    static void refused(String what, TunnelLamps x, Class<?> due, Call call) {
        String before = glance(x);
        same(what, due.getSimpleName(), outcome(call));
        same(what + " changes nothing", before, glance(x));
    }

    private static String glance(TunnelLamps x) {
        StringBuilder seen = new StringBuilder();
        for (int what : new int[] {0, 1, 2, 3, 4, 9, 10}) {
            seen.append(x.about(what)).append(' ');
        }
        return seen.append(x.lad(3)).append(' ').append(x.errorPosition()).toString();
    }

    static TunnelLamps withText(String text) {
        TunnelLamps x = new TunnelLamps();
        write(x, text);
        return x;
    }

    static void write(TunnelLamps x, String text) {
        x.clearText();
        for (int i = 0; i < text.length(); i++) {
            x.append(text.charAt(i));
        }
    }

    /** All that can be seen of the state, and the error position. */
    static String look(TunnelLamps x) {
        StringBuilder seen = new StringBuilder();
        for (int what = 0; what <= 12; what++) {
            seen.append(x.about(what)).append(' ');
        }
        for (int g = 0; g < x.about(0); g++) {
            row(seen, "gallery", 6, g, x::galleryOf);
        }
        for (int m = 0; m < x.about(1); m++) {
            row(seen, "miner", 4, m, x::minerOf);
        }
        for (int l = 0; l < x.about(2); l++) {
            row(seen, "lamp", 5, l, x::lampOf);
        }
        for (int k = 0; k < x.about(10); k++) {
            row(seen, "order", 4, k, x::orderOf);
        }
        row(seen, "lad", 4, 0, (nothing, what) -> x.lad(what));
        return seen.append("; text ").append(x.errorPosition()).toString();
    }

    private interface Look {
        int at(int thing, int what);
    }

    private static void row(StringBuilder seen, String name, int many, int thing, Look look) {
        seen.append("; ").append(name);
        for (int what = 0; what < many; what++) {
            seen.append(' ').append(look.at(thing, what));
        }
    }
}
