import java.io.IOException;
import java.lang.reflect.Field;
import java.lang.reflect.Method;
import java.lang.reflect.Modifier;
import java.nio.file.Files;
import java.nio.file.Path;
import java.util.ArrayList;
import java.util.HashSet;
import java.util.List;
import java.util.Set;
import java.util.regex.MatchResult;
import java.util.regex.Pattern;

/** Rules of LANGUAGE.md that the source and the compiled classes can tell. Run at the project's root. */
public final class LanguageTests {
    private static final Path SOURCE = Path.of("src/main/java/TreasureWalk.java");
    private static final int LONGEST_METHOD = 60;
    private static final List<String> IMPORTS = List.of("import java.util.ArrayList;", "import java.util.Arrays;",
            "import java.util.Iterator;", "import java.util.List;", "import java.util.NoSuchElementException;");

    private LanguageTests() {
    }

    public static void main(String[] args) throws IOException {
        List<String> lines = Files.readAllLines(SOURCE);
        signs(lines);
        imports(lines);
        words(String.join("\n", lines));
        library(String.join("\n", lines));
        methodLengths(lines);
        classes();
        Check.finish();
    }

    private static void signs(List<String> lines) {
        for (String line : lines) {
            Check.answers(true, "signs of: " + line, () -> line.chars().allMatch(sign -> sign >= 32 && sign < 127));
        }
    }

    private static void imports(List<String> lines) {
        for (String line : lines) {
            if (line.startsWith("import ") || line.startsWith("package ")) {
                Check.answers(true, "the rules allow " + line, () -> IMPORTS.contains(line));
            }
        }
    }

    private static void words(String source) {
        for (String word : List.of("->", "::", "\\bfinally\\b", "\\bassert\\b", "\\bsynchronized\\b",
                "catch \\([^)]*(NullPointer|ArrayIndex|ClassCast|NegativeArray|ArrayStore)Exception",
                "\\bSystem\\.(?!arraycopy)", "\\bMath\\.\\w+Exact\\b", "\\bvar\\b", "\\bprotected\\b",
                "\\bhashCode\\b", "\\bObject\\b")) {
            Check.answers(false, "the source has " + word, () -> Pattern.compile(word).matcher(source).find());
        }
    }

    /** Rule 4 lists functions of the library's classes, and none of their constants. */
    private static void library(String source) {
        Pattern member = Pattern.compile("\\b(Integer|Long|Math|System|Arrays|List|String)\\.\\w+\\(?");
        Pattern listed = Pattern.compile("(Integer|Long|Math)\\.[a-z]\\w*(?<!Exact)\\(|System\\.arraycopy\\("
                + "|Arrays\\.(copyOf|copyOfRange|fill)\\(|List\\.of\\(");
        member.matcher(source).results().map(MatchResult::group).distinct().forEach(each ->
                Check.answers(true, "rule 4 lists " + each, () -> listed.matcher(each).matches()));
    }

    /** A method begins and ends at lines of the same indent. */
    private static void methodLengths(List<String> lines) {
        Pattern head = Pattern.compile("( {4}| {8})(?!.*\\bclass\\b)[\\w.<>\\[\\], ]+\\(.*");
        for (int i = 0; i < lines.size(); i++) {
            String line = lines.get(i);
            if (head.matcher(line).matches() && !line.endsWith(";")) {
                String indent = line.startsWith("        ") ? "        " : "    ";
                int length = lines.subList(i, lines.size()).indexOf(indent + "}") + 1;
                Check.answers(true, length + " lines from: " + line, () -> length > 0 && length <= LONGEST_METHOD);
            }
        }
    }

    private static void classes() {
        Set<String> face = new HashSet<>();
        for (Method method : TreasureWalk.class.getDeclaredMethods()) {
            if (Modifier.isPublic(method.getModifiers())) {
                face.add(method.getName());
            }
        }
        List<Class<?>> all = new ArrayList<>(List.of(TreasureWalk.class.getDeclaredClasses()));
        for (Class<?> inside : all) {
            Check.answers(true, inside + " is static", () -> Modifier.isStatic(inside.getModifiers()));
            Check.answers(false, inside + " is public", () -> Modifier.isPublic(inside.getModifiers()));
        }
        all.add(TreasureWalk.class);
        Check.answers(true, all.size() + " classes", () -> all.size() <= 12);
        for (Class<?> each : all) {
            members(each, face);
        }
    }

    private static void members(Class<?> each, Set<String> face) {
        int fields = 0;
        for (Field field : each.getDeclaredFields()) {
            if (!Modifier.isStatic(field.getModifiers())) {
                fields++;
            } else {
                Check.answers(true, field + " is final", () -> Modifier.isFinal(field.getModifiers()));
            }
        }
        int count = fields;
        Check.answers(true, each + " has " + count + " fields", () -> count <= 20);
        for (Method method : each.getDeclaredMethods()) {
            Check.answers(true, method + " has up to 7 parameters", () -> method.getParameterCount() <= 7);
            if (!Modifier.isPublic(method.getModifiers())) {
                Check.answers(false, method + " bears a name of the face", () -> face.contains(method.getName()));
            }
        }
    }
}
