import java.nio.file.Files;
import java.nio.file.Path;
import java.util.List;
import java.util.regex.Matcher;
import java.util.regex.Pattern;

/** Writes the source of a program that carries out the examples of README.md and compares what they answer. */
public final class ReadmeSource {
    private static final String FENCE = "```";
    private static final Pattern MAKING = Pattern.compile("PaperCutter \\w+ = new PaperCutter\\(\\);");
    // A call, kept in a variable or not, and behind it what it answers.
    private static final Pattern CALL = Pattern.compile("(?:int (\\w+) = )?(\\w.*\\));\\s+// (-?\\d+)(?:: .*)?");

    private final StringBuilder functions = new StringBuilder();
    private final StringBuilder body = new StringBuilder();
    private int calls = 0;

    public static void main(String[] args) throws Exception {
        ReadmeSource source = new ReadmeSource();
        source.read(Files.readAllLines(Path.of(args[0])));
        System.out.print(source.program());
    }

    private void read(List<String> lines) {
        boolean inExample = false;
        boolean inFunction = false;
        for (String line : lines) {
            if (line.startsWith(FENCE)) {
                inExample = line.equals(FENCE + "java");
            } else if (inExample && (inFunction || line.startsWith("static "))) {
                functions.append("    ").append(line).append('\n');
                inFunction = !line.equals("}");
            } else if (inExample && !line.isBlank()) {
                put(line);
            }
        }
    }

    private void put(String line) {
        if (MAKING.matcher(line).matches()) {
            body.append("        ").append(line).append('\n');
            return;
        }
        Matcher call = CALL.matcher(line);
        if (!call.matches()) {
            throw new IllegalStateException("README.md doesn't say what this answers: " + line);
        }
        String name = call.group(1) == null ? "answer" + calls : call.group(1);
        String told = call.group(2).replace("\\", "\\\\").replace("\"", "\\\"");
        body.append("        int ").append(name).append(" = ").append(call.group(2)).append(";\n");
        body.append("        checks.due(\"README.md: ").append(told).append("\", ").append(name).append(", ")
            .append(call.group(3)).append(");\n");
        calls++;
    }

    private String program() {
        if (calls == 0) {
            throw new IllegalStateException("README.md has no example");
        }
        return "public final class Readme {\n"
            + "    public static void main(String[] args) {\n"
            + "        Checks checks = new Checks();\n"
            + body
            + "        if (!checks.report()) {\n"
            + "            System.exit(1);\n"
            + "        }\n"
            + "    }\n\n"
            + functions
            + "}\n";
    }
}
