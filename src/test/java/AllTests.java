/** Runs every test of the project; takes the path of the class's source and, if wanted, the number of long runs. */
public final class AllTests {
    public static void main(String[] args) throws Exception {
        Checks checks = new Checks();
        FaceTests.all(checks, args[0]);
        StockTests.all(checks);
        PatternTests.all(checks);
        RunTests.all(checks);
        AccountTests.all(checks);
        TextTests.all(checks);
        ModelTests.all(checks, args.length > 1 ? Integer.parseInt(args[1]) : 500);
        if (!checks.report()) {
            System.exit(1);
        }
    }
}
