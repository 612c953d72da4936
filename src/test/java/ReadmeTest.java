import java.io.IOException;
import java.lang.reflect.Method;
import java.lang.reflect.Modifier;
import java.nio.file.Files;
import java.nio.file.Path;
import java.util.ArrayList;
import java.util.List;
import java.util.regex.Matcher;
import java.util.regex.Pattern;
import java.util.stream.Stream;

/**
 * What README.md shows is so: its pieces of Java are put together to one program, in which each row
 * with "// answers" or "// throws" is compared with that, and the program is compiled and run.
 */
public final class ReadmeTest {
    private static final Pattern ROW = Pattern.compile("(?:(int|boolean|String) (\\w+) = )?(.*?); *// (answers|throws) (.*)");
    private static final Pattern ANSWER = Pattern.compile("(-?\\d+|true|false|'[^']'|\"[^\"]*\")(?:: .*)?");
    private static final Pattern THROWN = Pattern.compile("NoSuchElementException(?:: .*)?");
    private static final Pattern FAULT = Pattern.compile("(-?\\d+): (?:.*; )?place (\\d+), kind (\\d)\\b.*");
    private static final String CLASS = "ReadmeCalls";

    /** Rows of the pieces that are methods, and of those that are calls. */
    private static final List<String> methods = new ArrayList<>();
    private static final List<String> calls = new ArrayList<>();
    private static int wrong = 0;

    public static void main(String[] args) throws IOException, InterruptedException {
        String readme = Files.readString(Path.of("README.md"));
        pieces(readme);
        String program = program();
        eachCallIsShown();
        eachTestIsNamed(readme);
        if (wrong != 0) System.exit(1);
        System.exit(compiledAndRun(program));
    }

    private static void hold(String what, boolean well) {
        if (well) return;
        wrong++;
        System.out.println("README.md: " + what);
    }

    private static void pieces(String readme) {
        Matcher piece = Pattern.compile("(?ms)^```java\n(.*?)^```$").matcher(readme);
        while (piece.find()) {
            List<String> rows = piece.group(1).startsWith("static ") ? methods : calls;
            rows.addAll(List.of(piece.group(1).split("\n")));
        }
        hold("has no calls", calls.size() > 20);
    }

    private static String program() {
        StringBuilder text = new StringBuilder("final class " + CLASS + " {\n");
        for (String row : methods) text.append("    ").append(row).append('\n');
        text.append("    public static void main(String[] args) {\n");
        for (String row : calls) text.append("        ").append(compared(row)).append('\n');
        return text.append("        Tester.end();\n    }\n}\n").toString();
    }

    /** A row as it stands, or the same with a comparison of what it answers. */
    private static String compared(String row) {
        Matcher m = ROW.matcher(row);
        if (!m.matches()) {
            hold("a call without its answer: " + row, !row.contains("filler.") && !row.contains("//"));
            return row;
        }
        String told = "\"README.md: " + row.substring(0, row.indexOf("//")).trim().replace("\\", "\\\\").replace("\"", "\\\"") + "\"";
        if (m.group(4).equals("throws")) {
            hold("throws what: " + row, THROWN.matcher(m.group(5)).matches() && m.group(1) == null);
            return "{ long got; try { got = " + m.group(3) + "; } catch (java.util.NoSuchElementException e) { got = Tester.THROWS; } "
                    + "Tester.due(" + told + ", got, Tester.THROWS); }";
        }
        Matcher answer = ANSWER.matcher(m.group(5));
        hold("answers what: " + row, answer.matches());
        if (!answer.matches()) return row;
        return (m.group(1) == null ? "" : m.group(1) + " " + m.group(2) + " = " + m.group(3) + "; ")
                + "Tester.due(" + told + ", " + (m.group(1) == null ? m.group(3) : m.group(2)) + ", " + answer.group(1) + ");"
                + comparedFault(told, m.group(5));
    }

    /** Where a row names a fault's place and kind, these and the answer tell the same. */
    private static String comparedFault(String told, String answer) {
        Matcher fault = FAULT.matcher(answer);
        if (!fault.matches()) {
            hold("a place without its kind: " + answer, !answer.contains("place ") && !answer.contains("kind "));
            return "";
        }
        return " Tester.due(" + told + ", -2 - (8 * " + fault.group(2) + " + " + fault.group(3) + "), " + fault.group(1) + ");";
    }

    private static void eachCallIsShown() {
        for (Method m : SketchFiller.class.getDeclaredMethods()) {
            if (!Modifier.isPublic(m.getModifiers())) continue;
            hold("does not show " + m.getName(), calls.stream().anyMatch(row -> row.contains("filler." + m.getName() + "(")));
        }
    }

    private static void eachTestIsNamed(String readme) throws IOException {
        try (Stream<Path> files = Files.list(Path.of("src/test/java"))) {
            files.map(file -> file.getFileName().toString()).filter(name -> name.endsWith("Test.java")).sorted()
                    .forEach(name -> hold("does not name " + name, readme.contains("`" + name.replace(".java", "") + "`")));
        }
    }

    private static int compiledAndRun(String program) throws IOException, InterruptedException {
        Path at = Files.createTempDirectory("readme");
        String path = System.getProperty("java.class.path");
        try {
            Path source = Files.writeString(at.resolve(CLASS + ".java"), program);
            int compiled = done("javac", "-cp", path, "-d", at.toString(), source.toString());
            if (compiled != 0) return 1;
            return done("java", "-cp", at + System.getProperty("path.separator") + path, CLASS);
        } finally {
            try (Stream<Path> files = Files.list(at)) {
                for (Path file : files.toList()) Files.delete(file);
            }
            Files.delete(at);
        }
    }

    private static int done(String... command) throws IOException, InterruptedException {
        return new ProcessBuilder(command).inheritIO().start().waitFor();
    }
}
