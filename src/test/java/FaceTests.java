import java.lang.reflect.Constructor;
import java.lang.reflect.Field;
import java.lang.reflect.Method;
import java.lang.reflect.Modifier;
import java.nio.file.Files;
import java.nio.file.Path;
import java.util.ArrayList;
import java.util.List;
import java.util.TreeSet;
import java.util.regex.Matcher;
import java.util.regex.Pattern;

/** The public face, and those rules of LANGUAGE.md that can be looked up. */
final class FaceTests {
    private static final List<String> FACE = List.of("set(2)", "addOrder(6)", "addRoll(3)", "order(2)", "roll(2)",
        "ranked(1)", "explain(1)", "append(1)", "best(2)", "again(1)", "patterns(1)", "run(2)", "cut(1)", "cutAll(0)",
        "remove(1)", "made(2)", "position(2)", "setup(2)", "swap(2)", "split(2)", "write(1)", "written(1)",
        "arrange(1)", "leastSetups(0)", "keep(1)", "ifAll(1)", "account(1)", "grade(2)", "execute(0)", "reason(1)",
        "undo(0)", "save(0)", "restore(0)", "count(1)");
    private static final Pattern FORBIDDEN = Pattern.compile("\\b(throw|throws|try|catch|synchronized|assert|static \\{"
        + "|Exact|System\\.out|Random|currentTimeMillis|nanoTime|Thread|equals\\(Object|hashCode|toString)\\b|->|::");

    private final Checks c;

    private FaceTests(Checks checks) {
        c = checks;
    }

    static void all(Checks checks, String source) throws Exception {
        FaceTests t = new FaceTests(checks);
        t.constants();
        t.members();
        t.classesInside();
        t.source(Files.readString(Path.of(source)));
    }

    private void constants() {
        c.due("NONE", PaperCutter.NONE, -1);
        c.due("BAD", PaperCutter.BAD, -2);
        c.due("FULL", PaperCutter.FULL, -3);
        c.due("REFUSED", PaperCutter.REFUSED, -4);
        c.due("NOTHING", PaperCutter.NOTHING, -5);
    }

    private void members() {
        c.holds("the class is final", Modifier.isFinal(PaperCutter.class.getModifiers()));
        List<String> open = new ArrayList<>();
        for (Method m : PaperCutter.class.getDeclaredMethods()) {
            if (!Modifier.isPrivate(m.getModifiers())) {
                c.holds(m.getName() + " returns an int", m.getReturnType() == int.class);
                open.add(m.getName() + "(" + m.getParameterCount() + ")");
            }
        }
        c.holds("the methods are those of the document", new TreeSet<>(open).equals(new TreeSet<>(FACE)));
        List<String> fields = new ArrayList<>();
        for (Field f : PaperCutter.class.getDeclaredFields()) {
            if (!Modifier.isPrivate(f.getModifiers())) {
                fields.add(f.getName());
            }
        }
        c.holds("the constants are those of the document",
            new TreeSet<>(fields).equals(new TreeSet<>(List.of("NONE", "BAD", "FULL", "REFUSED", "NOTHING"))));
        c.due("constructors", PaperCutter.class.getDeclaredConstructors().length, 1);
    }

    private void classesInside() {
        Class<?>[] inside = PaperCutter.class.getDeclaredClasses();
        c.holds("at most some twelve classes", inside.length < 12);
        shape(PaperCutter.class);
        for (Class<?> one : inside) {
            c.holds(one + " is static", Modifier.isStatic(one.getModifiers()));
            c.holds(one + " is hidden", (one.getModifiers() & (Modifier.PUBLIC | Modifier.PROTECTED)) == 0);
            shape(one);
            for (Field f : one.getDeclaredFields()) {
                c.holds(f + " is private", f.isSynthetic() || Modifier.isPrivate(f.getModifiers()));
            }
            for (Constructor<?> made : one.getDeclaredConstructors()) {
                c.holds(made + " is private", made.isSynthetic() || Modifier.isPrivate(made.getModifiers()));
            }
            for (Method m : one.getDeclaredMethods()) {
                c.holds(m + " is private", m.isSynthetic() || Modifier.isPrivate(m.getModifiers()));
            }
        }
    }

    /** What every class of the file keeps to. */
    private void shape(Class<?> one) {
        TreeSet<String> open = new TreeSet<>();
        for (String method : FACE) {
            open.add(method.substring(0, method.indexOf('(')));
        }
        int fields = 0;
        for (Field f : one.getDeclaredFields()) {
            boolean isStatic = Modifier.isStatic(f.getModifiers());
            c.holds(f + " is final if it is static", !isStatic || Modifier.isFinal(f.getModifiers()));
            fields += isStatic ? 0 : 1;
        }
        c.holds(one + " has at most twenty fields", fields <= 20);
        for (Method m : one.getDeclaredMethods()) {
            c.holds(m + " has at most seven parameters", m.getParameterCount() <= 7);
            boolean isOpen = Modifier.isPublic(m.getModifiers());
            c.holds(m + " bears no public name", isOpen || !open.contains(m.getName()));
        }
    }

    private void source(String text) {
        String code = text.replaceAll("(?s)/\\*.*?\\*/", "").replaceAll("//[^\n]*", "");
        Matcher m = FORBIDDEN.matcher(code);
        while (m.find()) {
            c.holds("the source has " + m.group(), false);
        }
        c.holds("no characters beyond 127", text.chars().allMatch(sign -> sign < 128));
        c.holds("the one import", code.replaceAll("(?s)public final class.*", "").trim()
            .equals("import java.util.Arrays;"));
    }
}
