import java.nio.charset.StandardCharsets;
import java.util.Objects;

/** What all tests share: they compare answers, and the program fails at its end if one was wrong. */
final class Check {
    interface Call {
        Object run();
    }

    private static int wrong = 0;
    private static int checked = 0;

    private Check() {
    }

    /** Makes a call and returns its answer, or the plain name of the class that it throws. */
    static Object answerOf(Call call) {
        try {
            return call.run();
        } catch (RuntimeException thrown) {
            return thrown.getClass().getSimpleName();
        }
    }

    static void answers(Object want, String what, Call call) {
        Object got = answerOf(call);
        checked++;
        if (!Objects.equals(got, want)) {
            wrong++;
            System.out.println(what + " answered " + got + ", due is " + want);
        }
    }

    static void outside(String what, Call call) {
        answers("IndexOutOfBoundsException", what, call);
    }

    static void illegal(String what, Call call) {
        answers("IllegalArgumentException", what, call);
    }

    static void none(String what, Call call) {
        answers("NoSuchElementException", what, call);
    }

    /** Appends a text, with spaces up to a multiple of 20 bytes. */
    static void append(TreasureWalk walk, String text) {
        byte[] bytes = text.getBytes(StandardCharsets.ISO_8859_1);
        for (int from = 0; from < bytes.length; from += 20) {
            int[] words = new int[5];
            for (int i = 0; i < 20; i++) {
                int sign = from + i < bytes.length ? bytes[from + i] & 255 : ' ';
                words[i / 4] = words[i / 4] << 8 | sign;
            }
            walk.append(words[0], words[1], words[2], words[3], words[4]);
        }
    }

    static int load(TreasureWalk walk, String text) {
        append(walk, text);
        return walk.load(text.length());
    }

    /** A new object that has read a text which must have no error. */
    static TreasureWalk loaded(String text) {
        TreasureWalk walk = new TreasureWalk();
        int code = load(walk, text);
        if (code < 0) {
            throw new IllegalStateException(text + ": error " + code + " at " + walk.errorOffset());
        }
        return walk;
    }

    static void finish() {
        System.out.println(checked + " answers, " + wrong + " of them wrong");
        if (wrong != 0) {
            System.exit(1);
        }
    }
}
