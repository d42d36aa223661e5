import java.lang.reflect.Constructor;
import java.lang.reflect.Field;
import java.lang.reflect.Method;
import java.lang.reflect.Modifier;
import java.util.TreeSet;

/** The public face: all of it and nothing else. */
public final class FaceTests {
    private static final String[] METHODS = {
        "int append(int,int,int,int,int)",
        "int load(int) throws java.lang.IllegalArgumentException",
        "int errorOffset()",
        "int state(int) throws java.lang.IllegalArgumentException",
        "int cell(int,int) throws java.lang.IndexOutOfBoundsException",
        "int pace(int,int,int) throws java.lang.IndexOutOfBoundsException,java.lang.IllegalArgumentException",
        "int reached(int,int) throws java.lang.IndexOutOfBoundsException,java.lang.IllegalArgumentException",
        "boolean ends(int,int,int) throws java.lang.IndexOutOfBoundsException",
        "int why(int,int) throws java.lang.IndexOutOfBoundsException",
        "int walk(int,int,int,int) throws java.lang.IndexOutOfBoundsException,java.util.NoSuchElementException",
        "int starts(int,int,int) throws java.lang.IndexOutOfBoundsException",
        "int distance(int,int) throws java.lang.IndexOutOfBoundsException",
        "int nearest()",
        "int tour()",
        "int part(int,int) throws java.lang.IndexOutOfBoundsException",
        "double meanDistance()",
        "boolean chestIsLeft()",
        "int moveTo(int,int) throws java.lang.IndexOutOfBoundsException",
        "int dig()",
        "int use(int,boolean) throws java.lang.IndexOutOfBoundsException",
        "int hide(int) throws java.lang.IllegalArgumentException",
        "int turn(int,int) throws java.lang.IndexOutOfBoundsException,java.lang.IllegalArgumentException",
        "int undo()",
        "long checksum()",
    };

    private FaceTests() {
    }

    public static void main(String[] args) {
        constants();
        members();
        Check.finish();
    }

    private static void constants() {
        Check.answers(-2, "SYNTAX_ERROR", () -> TreasureWalk.SYNTAX_ERROR);
        Check.answers(-3, "OUT_OF_RANGE", () -> TreasureWalk.OUT_OF_RANGE);
        Check.answers(-4, "REPEATED", () -> TreasureWalk.REPEATED);
        Check.answers(-5, "UNKNOWN", () -> TreasureWalk.UNKNOWN);
        Check.answers(-6, "TOO_MANY", () -> TreasureWalk.TOO_MANY);
        Check.answers(-7, "WET", () -> TreasureWalk.WET);
    }

    private static void members() {
        TreeSet<String> due = new TreeSet<>();
        for (String method : METHODS) {
            due.add("public " + method.replaceFirst(" (\\w+)\\(", " TreasureWalk.$1("));
        }
        TreeSet<String> got = new TreeSet<>();
        for (Method method : TreasureWalk.class.getDeclaredMethods()) {
            if (!Modifier.isPrivate(method.getModifiers())) {
                got.add(method.toGenericString());
            }
        }
        Check.answers(due.toString(), "methods", got::toString);
        TreeSet<String> others = new TreeSet<>();
        for (Constructor<?> constructor : TreasureWalk.class.getDeclaredConstructors()) {
            others.add(constructor.toGenericString());
        }
        for (Field field : TreasureWalk.class.getDeclaredFields()) {
            if (!Modifier.isPrivate(field.getModifiers())) {
                others.add(field.toGenericString().replace("TreasureWalk.", ""));
            }
        }
        Check.answers("[public TreasureWalk(), public static final int OUT_OF_RANGE, "
                + "public static final int REPEATED, public static final int SYNTAX_ERROR, "
                + "public static final int TOO_MANY, public static final int UNKNOWN, "
                + "public static final int WET]", "constructors and constants", others::toString);
        Check.answers(true, "the class is public and final", () -> Modifier.isFinal(TreasureWalk.class.getModifiers())
                && Modifier.isPublic(TreasureWalk.class.getModifiers()));
    }
}
