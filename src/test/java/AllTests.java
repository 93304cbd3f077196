import java.util.ArrayList;
import java.util.List;

/** Runs every test of the project; ends with exit code 1 if one fails. */
public final class AllTests {
    public static void main(String[] args) {
        List<Check.Test> tests = new ArrayList<>();
        TextTests.addTo(tests);
        SightTests.addTo(tests);
        ActionTests.addTo(tests);
        HourTests.addTo(tests);
        ForecastTests.addTo(tests);
        ScriptTests.addTo(tests);
        SlotTests.addTo(tests);
        EdgeTermsTests.addTo(tests);
        EdgeLadTests.addTo(tests);
        EdgeHourTests.addTo(tests);
        EdgeTextTests.addTo(tests);
        EdgeSightTests.addTo(tests);
        EdgeActionTests.addTo(tests);
        EdgeUndoTests.addTo(tests);
        EdgeForecastTests.addTo(tests);
        EdgeScriptTests.addTo(tests);
        EdgeSlotTests.addTo(tests);
        DocumentTests.addTo(tests);
        SourceTests.addTo(tests);
        ReadmeTests.addTo(tests);
        RandomRunTests.addTo(tests);
        int failed = 0;
        for (Check.Test test : tests) {
            try {
                test.body().run();
            } catch (Throwable fault) {
                failed++;
                System.out.println("FAILED: " + test.name() + ": " + fault);
            }
        }
        System.out.println("own tests: " + (tests.size() - failed) + " passed, " + failed + " failed");
        if (failed != 0) {
            System.exit(1);
        }
    }
}
