import java.io.IOException;
import java.net.URL;
import java.net.URLClassLoader;
import java.nio.file.Files;
import java.nio.file.Path;
import java.util.ArrayList;
import java.util.List;
import java.util.TreeSet;
import java.util.regex.Matcher;
import java.util.regex.Pattern;
import javax.tools.ToolProvider;

/**
 * The examples of README.md are one program: it is compiled as it stands there, and each answer that
 * is told behind a call is the one that the class gives.
 */
public final class ReadmeTest {
    private static final Check CHECK = new Check();
    private static final Path README = Path.of("README.md");
    private static final String NAME = "ReadmeExample";
    /** A call of which the answer is told: "x.count(1);  // 0: .." or "int king = x.person(2, 5);  // 2: ..". */
    private static final Pattern TOLD = Pattern.compile("(?:int (\\w+) = )?(x\\.\\w+\\(.*\\));\\s+// (-?\\w+): .+");
    private static final Pattern CALL = Pattern.compile("x\\.(\\w+)\\(");

    public static void main(String[] args) throws Exception {
        List<String> program = new ArrayList<>();
        TreeSet<String> called = new TreeSet<>();
        for (String line : exampleLines()) {
            Matcher call = CALL.matcher(line);
            if (call.find()) {
                called.add(call.group(1));
            }
            program.add(asked(line));
        }
        CHECK.due("calls of the face in the examples: " + called, called.size(), 23);
        run(program);
        CHECK.end();
    }

    /** The example asks here. It is public, for the example is loaded apart from the tests. */
    public static void due(String call, long got, long want) {
        CHECK.due("README.md: " + call, got, want);
    }

    private static List<String> exampleLines() throws IOException {
        List<String> lines = new ArrayList<>();
        boolean inside = false;
        for (String line : Files.readAllLines(README)) {
            if (line.startsWith("```")) {
                inside = line.equals("```java");
            } else if (inside) {
                lines.add(line);
            }
        }
        return lines;
    }

    private static String asked(String line) {
        Matcher told = TOLD.matcher(line);
        if (!told.matches()) {
            boolean silent = !CALL.matcher(line).find() || line.equals("    x.letter(c);");
            CHECK.due("README.md tells the answer of: " + line, silent ? 1 : 0, 1);
            return line;
        }
        String answer = told.group(3);
        boolean isNumber = answer.matches("-?\\d+");
        String due = isNumber ? answer + "L" : "WineByYears." + answer;
        String name = told.group(1);
        String ahead = name == null ? "" : "int " + name + " = " + told.group(2) + "; ";
        String got = name == null ? told.group(2) : name;
        return ahead + "ReadmeTest.due(\"" + told.group(2) + "\", " + got + ", " + due + ");";
    }

    private static void run(List<String> program) throws Exception {
        Path out = Files.createTempDirectory("readme");
        Path source = out.resolve(NAME + ".java");
        Path made = out.resolve(NAME + ".class");
        List<String> text = new ArrayList<>();
        text.add("public final class " + NAME + " { public static void main(String[] args) {");
        text.addAll(program);
        text.add("} }");
        Files.write(source, text);
        int failed = ToolProvider.getSystemJavaCompiler().run(null, System.out, System.out,
            "-cp", System.getProperty("java.class.path"), "-d", out.toString(), source.toString());
        CHECK.due("compiling the examples of README.md", failed, 0);
        if (failed == 0) {
            try (URLClassLoader loader = new URLClassLoader(new URL[] {out.toUri().toURL()})) {
                loader.loadClass(NAME).getMethod("main", String[].class).invoke(null, (Object) new String[0]);
            }
        }
        Files.deleteIfExists(made);
        Files.delete(source);
        Files.delete(out);
    }
}
