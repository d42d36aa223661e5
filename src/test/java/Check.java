import java.nio.charset.StandardCharsets;
import java.util.ArrayList;
import java.util.List;
import java.util.Objects;

/** What all tests share: they compare answers, and the program fails at its end if one was wrong. */
final class Check {
    interface Call {
        Object run();
    }

    private static final List<String> sentences = new ArrayList<>();

    private static int wrong = 0;
    private static int checked = 0;

    private Check() {
    }

    /** From here on answers are due by this sentence of the document, or by this part of one. */
    static void sentence(String words) {
        sentences.add(words);
    }

    /** All sentences told until now. */
    static List<String> sentences() {
        return sentences;
    }

    /** Makes a call and returns its answer, or the plain name of the class that it throws. */
    static Object answerOf(Call call) {
        try {
            return call.run();
        } catch (RuntimeException thrown) {
            return thrown.getClass().getSimpleName();
        }
    }

    static void answers(Object want, String what, Call call) {
        Object got = answerOf(call);
        checked++;
        if (!Objects.equals(got, want)) {
            wrong++;
            System.out.println(what + " answered " + got + ", due is " + want + wordsAhead());
        }
    }

    private static String wordsAhead() {
        return sentences.isEmpty() ? "" : " by: " + sentences.get(sentences.size() - 1);
    }

    static void outside(String what, Call call) {
        answers("IndexOutOfBoundsException", what, call);
    }

    static void illegal(String what, Call call) {
        answers("IllegalArgumentException", what, call);
    }

    static void none(String what, Call call) {
        answers("NoSuchElementException", what, call);
    }

    /** Appends a text, with spaces up to a multiple of 20 bytes. */
    static void append(TreasureWalk walk, String text) {
        byte[] bytes = text.getBytes(StandardCharsets.ISO_8859_1);
        for (int from = 0; from < bytes.length; from += 20) {
            int[] words = new int[5];
            for (int i = 0; i < 20; i++) {
                int sign = from + i < bytes.length ? bytes[from + i] & 255 : ' ';
                words[i / 4] = words[i / 4] << 8 | sign;
            }
            walk.append(words[0], words[1], words[2], words[3], words[4]);
        }
    }

    static int load(TreasureWalk walk, String text) {
        append(walk, text);
        return walk.load(text.length());
    }

    /** A new object that has read a text which must have no error. */
    static TreasureWalk loaded(String text) {
        TreasureWalk walk = new TreasureWalk();
        int code = load(walk, text);
        if (code < 0) {
            throw new IllegalStateException(text + ": error " + code + " at " + walk.errorOffset());
        }
        return walk;
    }

    /** A new object must read a text without an error and find so many clues in it. */
    static void good(int clues, String text) {
        TreasureWalk walk = new TreasureWalk();
        answers(clues, text, () -> load(walk, text));
        answers(-1, text + " (errorOffset)", () -> walk.errorOffset());
    }

    /** A new object must find this first error in a text. */
    static void bad(int code, int offset, String text) {
        TreasureWalk walk = new TreasureWalk();
        answers(code, text, () -> load(walk, text));
        answers(offset, text + " (errorOffset)", () -> walk.errorOffset());
    }

    /** The first error must be at the last appearance of a piece of the text. */
    static void badAt(int code, String piece, String text) {
        bad(code, text.lastIndexOf(piece), text);
    }

    /** The first calls of state must answer these numbers. */
    static void states(String when, TreasureWalk walk, int... due) {
        for (int i = 0; i < due.length; i++) {
            int what = i;
            answers(due[i], when + ": state(" + i + ")", () -> walk.state(what));
        }
    }

    /** The region of a clue, as "x,y x,y ..": this costs up to 402 of the 512 calls of an object. */
    static void region(TreasureWalk walk, int clue, String due) {
        int width = walk.state(0);
        int height = walk.state(1);
        StringBuilder cells = new StringBuilder();
        for (int y = 0; y < height; y++) {
            for (int x = 0; x < width; x++) {
                if (walk.ends(clue, x, y)) {
                    cells.append(cells.length() == 0 ? "" : " ").append(x).append(',').append(y);
                }
            }
        }
        answers(due, "region " + clue, () -> cells.toString());
    }

    static void region(String text, int clue, String due) {
        region(loaded(text), clue, due);
    }

    static void finish() {
        System.out.println(checked + " answers, " + wrong + " of them wrong");
        if (wrong != 0) {
            System.exit(1);
        }
    }
}
