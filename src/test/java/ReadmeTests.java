import java.io.IOException;
import java.lang.reflect.Method;
import java.lang.reflect.Modifier;
import java.nio.file.Files;
import java.nio.file.Path;
import java.util.regex.Matcher;
import java.util.regex.Pattern;
import javax.tools.ToolProvider;

/**
 * The examples of README.md: they are compiled as they stand there, and each call must answer what its
 * comment says. Run at the project's root.
 */
public final class ReadmeTests {
    private static final Path README = Path.of("README.md");
    /** The folder of the compiled tests: the class path has no other one. */
    private static final String CLASSES = System.getProperty("java.class.path");
    private static final Pattern BLOCK = Pattern.compile("```java\n(.*?)```", Pattern.DOTALL);
    private static final Pattern CALL = Pattern.compile("(walk\\.(\\w+)\\(.*\\));\\s+// ([\\w.-]+)(:.*)?");

    private ReadmeTests() {
    }

    public static void main(String[] args) throws IOException, ReflectiveOperationException {
        String text = Files.readString(README);
        run(programOf(text));
        callsTold(text);
        Check.finish();
    }

    /** A block that begins with a method is a part of the class, each other one has a method of its own. */
    private static String programOf(String text) {
        StringBuilder methods = new StringBuilder();
        StringBuilder calls = new StringBuilder();
        int blocks = 0;
        Matcher block = BLOCK.matcher(text);
        while (block.find()) {
            if (block.group(1).startsWith("static ")) {
                methods.append(block.group(1));
            } else {
                methods.append("static void block").append(blocks).append("() {\n");
                block.group(1).lines().forEach(line -> methods.append(checked(line)).append('\n'));
                methods.append("}\n");
                calls.append("block").append(blocks).append("();\n");
                blocks++;
            }
        }
        return "public final class Examples {\n" + methods + "public static void run() {\n" + calls + "}\n}\n";
    }

    private static String checked(String line) {
        Matcher call = CALL.matcher(line);
        if (!call.matches()) {
            return line;
        }
        return "Check.answers(" + call.group(3) + ", \"README.md: " + call.group(1) + "\", () -> " + call.group(1)
                + ");";
    }

    /** Puts the examples among the compiled tests: only there they can use Check. */
    private static void run(String program) throws IOException, ReflectiveOperationException {
        Path source = Files.writeString(Path.of(CLASSES).resolve("Examples.java"), program);
        int code = ToolProvider.getSystemJavaCompiler().run(null, null, null,
                "-cp", CLASSES, "-d", CLASSES, source.toString());
        Check.answers(0, "the examples of README.md compile", () -> code);
        if (code == 0) {
            Class.forName("Examples").getMethod("run").invoke(null);
        }
    }

    /** Each method of the face stands in an example, and all but append with what it answers. */
    private static void callsTold(String text) {
        for (Method method : TreasureWalk.class.getDeclaredMethods()) {
            if (Modifier.isPublic(method.getModifiers())) {
                String name = method.getName();
                Check.answers(true, "README.md shows " + name, () -> name.equals("append")
                        ? text.contains("walk.append(")
                        : CALL.matcher(text).results().anyMatch(call -> call.group(2).equals(name)));
            }
        }
    }
}
