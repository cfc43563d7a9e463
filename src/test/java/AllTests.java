import java.nio.file.Files;
import java.nio.file.Path;

/** Runs every test; takes the paths of the class's source, the document and README.md, and the number of long runs. */
public final class AllTests {
    public static void main(String[] args) throws Exception {
        Checks checks = new Checks();
        FaceTests.all(checks, args[0]);
        StockTests.all(checks);
        PatternTests.all(checks);
        RunTests.all(checks);
        AccountTests.all(checks);
        TextTests.all(checks);
        Sentences sentences = new Sentences();
        Edges.all(checks, sentences);
        compare(checks, sentences, Path.of(args[1]));
        ReadmeTests.all(checks, Path.of(args[2]));
        ModelTests.all(checks, args.length > 3 ? Integer.parseInt(args[3]) : 500);
        if (!checks.report()) {
            System.exit(1);
        }
    }

    private static void compare(Checks checks, Sentences sentences, Path document) throws Exception {
        if (Files.exists(document)) {
            sentences.compare(checks, Files.readString(document));
        } else {
            System.out.println("there is no " + document + " to compare the tests' sentences with");
        }
    }
}
