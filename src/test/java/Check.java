import java.util.function.LongSupplier;

/** Counts the tests that passed and failed; a test fails when one of its answers is not the due one. */
final class Check {
    private static int passed = 0;
    private static int failed = 0;
    private static int wrongInTest = 0;
    private static int checksInTest = 0;

    private Check() { }

    static void test(String name, Runnable body) {
        wrongInTest = 0;
        checksInTest = 0;
        try {
            body.run();
        } catch (RuntimeException | Error thrown) {
            wrongInTest++;
            System.out.println("  " + name + ": threw " + thrown);
        }
        if (checksInTest == 0) {
            wrongInTest++;
            System.out.println("  " + name + ": checked nothing");
        }
        if (wrongInTest == 0) {
            passed++;
        } else {
            failed++;
            System.out.println("FAILED: " + name);
        }
    }

    static void due(String call, long got, long want) {
        checksInTest++;
        if (got != want) {
            wrongInTest++;
            // More rows than these tell nothing new.
            if (wrongInTest <= 20) {
                System.out.println("  " + call + " answered " + got + ", due is " + want);
            }
        }
    }

    /** The call's answer is due, and what the object tells of itself is the same behind it. */
    static void refused(String call, TideWheels x, LongSupplier asked, long want) {
        long before = Told.of(x);
        due(call, asked.getAsLong(), want);
        due(call + " changed nothing", Told.of(x), before);
    }

    static boolean end() {
        System.out.println(passed + " passed, " + failed + " failed");
        return failed == 0;
    }
}
