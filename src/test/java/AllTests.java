/** Runs all tests of the project; its arguments are the paths of the source that they are about, and of its page. */
public final class AllTests {
    private AllTests() { }

    public static void main(String[] args) {
        PartsTest.all();
        TurningTest.all();
        WatersTest.all();
        ToldTest.all();
        GearsTest.all();
        LotTest.all();
        TextsTest.all();
        HostTest.all();
        FaceTest.all();
        String source = args.length > 0 ? args[0] : "src/main/java/TideWheels.java";
        LanguageTest.all(source);
        CallsTest.all(source);
        ReadmeTest.all(args.length > 1 ? args[1] : "README.md");
        RandomRunsTest.all();
        PartsEdges.all();
        TurningEdges.all();
        WatersEdges.all();
        ToldEdges.all();
        GearsEdges.all();
        LotEdges.all();
        TextsEdges.all();
        HostEdges.all();
        Edge.allCovered();
        if (!Check.end()) {
            System.exit(1);
        }
    }
}
