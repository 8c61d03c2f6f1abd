/** Runs all tests of the project; its argument is the path of the source that they are about. */
public final class AllTests {
    private AllTests() { }

    public static void main(String[] args) {
        PartsTest.all();
        TurningTest.all();
        WatersTest.all();
        ToldTest.all();
        GearsTest.all();
        LotTest.all();
        TextsTest.all();
        HostTest.all();
        FaceTest.all();
        LanguageTest.all(args.length > 0 ? args[0] : "src/main/java/TideWheels.java");
        RandomRunsTest.all();
        PartsEdges.all();
        TurningEdges.all();
        WatersEdges.all();
        ToldEdges.all();
        GearsEdges.all();
        LotEdges.all();
        TextsEdges.all();
        HostEdges.all();
        Edge.allCovered();
        if (!Check.end()) {
            System.exit(1);
        }
    }
}
