import java.io.IOException;
import java.lang.reflect.Constructor;
import java.lang.reflect.Field;
import java.lang.reflect.Method;
import java.lang.reflect.Modifier;
import java.nio.file.Files;
import java.nio.file.Path;
import java.util.ArrayList;
import java.util.List;
import java.util.Set;
import java.util.TreeSet;
import java.util.regex.Matcher;
import java.util.regex.Pattern;

/** ../shared/LANGUAGE.md, as far as the class's text and its parts show whether it is kept to. */
final class LanguageTest {
    private static final Check CHECK = new Check();
    private static final Path MAIN = Path.of("src/main/java");
    private static final Pattern WORD = Pattern.compile("[A-Za-z_]\\w*");
    private static final Pattern LIBRARY = Pattern.compile("\\b(String\\w*|Integer|Long|Math|System|Arrays|List|ArrayList)\\b(?:\\.(\\w+))?");

    /** What the rules forbid by a word; no call of the document throws, so nothing is thrown or caught either. */
    private static final Set<String> FORBIDDEN = Set.of("package", "import", "throw", "throws", "try", "catch",
        "finally", "synchronized", "assert", "volatile", "native", "Object", "Thread", "Random", "float", "double");
    /** Of what rule 4 allows the class uses no more than this. */
    private static final Set<String> ALLOWED = Set.of("Integer.bitCount", "Math.min", "Math.max", "System.arraycopy");

    public static void main(String[] args) throws IOException {
        oneFile();
        String text = Files.readString(MAIN.resolve("WineByYears.java"));
        String code = withoutWords(text);
        signs(text);
        words(code);
        methodLines(code);
        List<Class<?>> classes = classes();
        CHECK.words("rule 11: the file has at most some twelve classes");
        CHECK.due(classes.size() + " classes", classes.size() <= 12 ? 1 : 0, 1);
        for (Class<?> one : classes) {
            fields(one);
            methods(one);
        }
        CHECK.end();
    }

    private static void oneFile() throws IOException {
        CHECK.words("the one file src/main/java/WineByYears.java");
        try (var files = Files.list(MAIN)) {
            CHECK.due("files of " + MAIN, files.count(), 1);
        }
    }

    /** The text without comments, and with nothing between the marks of texts and letters; lines stay. */
    private static String withoutWords(String text) {
        Matcher m = Pattern.compile("/\\*.*?\\*/|//[^\\n]*|\"[^\"\\n]*\"|'[^'\\n]*'", Pattern.DOTALL).matcher(text);
        return m.replaceAll(found -> found.group().replaceAll("[^\\n]", " "));
    }

    private static void signs(String text) {
        CHECK.words("rule 4: constants, whose signs are 1 to 127");
        CHECK.due("other signs", text.chars().filter(sign -> sign < 1 || sign > 127).count(), 0);
    }

    private static void words(String code) {
        CHECK.words("rules 2, 4, 6 and 13");
        Matcher word = WORD.matcher(code);
        TreeSet<String> wrong = new TreeSet<>();
        while (word.find()) {
            if (FORBIDDEN.contains(word.group())) {
                wrong.add(word.group());
            }
        }
        CHECK.due("forbidden words " + wrong, wrong.size(), 0);
        CHECK.due("a lambda", code.indexOf("->"), -1);
        CHECK.due("a method reference", code.indexOf("::"), -1);
        CHECK.due("an annotation", code.indexOf('@'), -1);
        CHECK.due("a static initialiser block", Pattern.compile("static\\s*\\{").matcher(code).find() ? 1 : 0, 0);
        Matcher library = LIBRARY.matcher(code);
        TreeSet<String> used = new TreeSet<>();
        while (library.find()) {
            used.add(library.group(1) + "." + library.group(2));
        }
        used.removeAll(ALLOWED);
        CHECK.due("of the library also " + used, used.size(), 0);
    }

    /** A method begins by a line with a '(' that opens a block, and ends by a '}' that stands as far in. */
    private static void methodLines(String code) {
        CHECK.words("rule 11: methods stay short (some sixty lines)");
        Pattern head = Pattern.compile("( {4}| {8})\\w[^=;]*\\([^;]*\\) \\{");
        String[] lines = code.split("\n");
        int methods = 0;
        for (int begin = 0; begin < lines.length; begin++) {
            Matcher m = head.matcher(lines[begin].stripTrailing());
            if (m.matches() && !lines[begin].strip().matches("(if|for|while|switch|do|else)\\b.*")) {
                int end = begin;
                while (end < lines.length && !lines[end].stripTrailing().equals(m.group(1) + "}")) {
                    end++;
                }
                methods++;
                CHECK.due("lines of " + lines[begin].strip(), end - begin < 60 ? 1 : 0, 1);
            }
        }
        CHECK.due("methods were found: " + methods, methods >= 24 ? 1 : 0, 1);
    }

    private static List<Class<?>> classes() {
        List<Class<?>> all = new ArrayList<>();
        all.add(WineByYears.class);
        for (int i = 0; i < all.size(); i++) {
            all.addAll(List.of(all.get(i).getDeclaredClasses()));
        }
        return all;
    }

    private static void fields(Class<?> one) {
        int own = 0;
        for (Field field : one.getDeclaredFields()) {
            if (Modifier.isStatic(field.getModifiers())) {
                CHECK.words("rule 5: static fields are final: constants of int, long, boolean, char or String");
                CHECK.due(field + " is final", Modifier.isFinal(field.getModifiers()) ? 1 : 0, 1);
                CHECK.due(field + " is a constant", field.getType().isPrimitive() ? 1 : 0, 1);
            } else {
                own++;
            }
        }
        CHECK.words("rule 11: a class some twenty fields beside its constants");
        CHECK.due(own + " fields of " + one, own <= 20 ? 1 : 0, 1);
    }

    private static void methods(Class<?> one) {
        CHECK.words("rule 11: a method takes at most seven parameters");
        for (Method method : one.getDeclaredMethods()) {
            CHECK.due("parameters of " + method, method.getParameterCount() <= 7 ? 1 : 0, 1);
        }
        for (Constructor<?> made : one.getDeclaredConstructors()) {
            CHECK.due("parameters of " + made, made.getParameterCount() <= 7 ? 1 : 0, 1);
        }
    }
}
