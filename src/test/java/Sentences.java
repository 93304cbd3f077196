import java.util.List;

/**
 * Collects tests of single sentences. Each bears the document's own words, so that the sentence can be found again, and
 * so that DocumentTests can tell which sentence has none; " .. " in the words tells a gap.
 */
final class Sentences {
    private final List<Check.Test> tests;
    private final String section;

    Sentences(List<Check.Test> tests, String section) {
        this.tests = tests;
        this.section = section;
    }

    void test(String words, Runnable body) {
        add(section + ": " + words, words, body);
    }

    /** One of several tests of the same words, each of which has its own remark. */
    void test(String words, String remark, Runnable body) {
        add(section + ": " + words + " [" + remark + "]", words, body);
    }

    private void add(String name, String words, Runnable body) {
        tests.add(new Check.Test(name, body, section, words));
    }
}
