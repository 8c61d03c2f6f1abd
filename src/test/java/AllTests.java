public final class AllTests {
    public static void main(String[] args) { System.out.println("none yet"); }
}
