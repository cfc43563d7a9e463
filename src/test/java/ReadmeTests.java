import java.io.File;
import java.lang.reflect.Field;
import java.lang.reflect.Method;
import java.lang.reflect.Modifier;
import java.nio.file.Files;
import java.nio.file.Path;
import java.util.regex.Pattern;

/** README.md has all that it has to tell of; what its examples answer is checked by the program of ReadmeSource. */
final class ReadmeTests {
    private ReadmeTests() { }

    static void all(Checks checks, Path readme) throws Exception {
        String page = Files.readString(readme);
        methods(checks, page);
        constants(checks, page);
        tests(checks, page, readme.toAbsolutePath().resolveSibling("src/test/java").toFile());
        checks.holds("README.md tells of fault positions", page.contains("| -1000 - p |"));
        checks.holds("README.md tells how to make an object", page.contains("= new PaperCutter();"));
    }

    private static void methods(Checks checks, String page) {
        for (Method m : PaperCutter.class.getDeclaredMethods()) {
            if (Modifier.isPublic(m.getModifiers())) {
                Pattern call = Pattern.compile("\\." + m.getName() + "\\(");
                checks.holds("README.md has an example of " + m.getName(), call.matcher(page).find());
            }
        }
    }

    private static void constants(Checks checks, String page) throws IllegalAccessException {
        for (Field f : PaperCutter.class.getDeclaredFields()) {
            if (Modifier.isPublic(f.getModifiers())) {
                String row = "| " + f.getInt(null) + " | `" + f.getName() + "` | ";
                checks.holds("README.md has the row " + row, page.contains(row));
            }
        }
    }

    private static void tests(Checks checks, String page, File folder) {
        String[] files = folder.list();
        checks.holds("there are tests in " + folder, files != null && files.length > 0);
        for (String file : files == null ? new String[0] : files) {
            String name = "`" + file.replace(".java", "") + "`";
            checks.holds("README.md tells what " + name + " is for", page.contains(name));
        }
    }
}
