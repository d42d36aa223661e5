import java.util.ArrayList;
import java.util.List;
import java.util.Objects;

/**
 * All promises together: many runs of calls, on maps and texts of all kinds, of which each answer is
 * compared with the model's. The runs are the same each time.
 */
public final class ModelTests {
    private static final int RUNS = 3200;
    private static final int CALLS = 90;
    /** What an object answers behind its 512th call is free: a run ends ahead of it. */
    private static final int MOST_CALLS = 512;
    /** More than a row of calls of one kind needs: a load of 600 bytes has 32. */
    private static final int SPARE_CALLS = 36;

    private static final Dice dice = new Dice();
    private static final SetupTexts texts = new SetupTexts(dice);

    private static int wrong = 0;
    private static int compared = 0;
    private static int used = 0;

    private ModelTests() {
    }

    public static void main(String[] args) {
        for (int run = 0; run < RUNS && wrong == 0; run++) {
            compareRun(run);
        }
        System.out.println(compared + " answers compared, " + wrong + " of them wrong");
        if (wrong != 0) {
            System.exit(1);
        }
    }

    private static void compareRun(int run) {
        TreasureWalk walk = new TreasureWalk();
        Model model = new Model();
        List<String> calls = new ArrayList<>();
        used = 0;
        compareLoad(walk, model, calls, texts.make());
        for (int i = 0; i < CALLS && wrong == 0 && used < MOST_CALLS - SPARE_CALLS; i++) {
            if (dice.below(25) == 0) {
                compareLoad(walk, model, calls, dice.below(2) == 0 ? texts.make() : texts.spoil(texts.make()));
            } else {
                compareCall(walk, model, calls);
            }
        }
        same(calls, "checksum()", walk::checksum, model::checksum);
        if (wrong != 0) {
            System.out.println("run " + run + ":");
            calls.forEach(System.out::println);
        }
    }

    private static void compareLoad(TreasureWalk walk, Model model, List<String> calls, String text) {
        for (int from = 0; from < text.length(); from += 20) {
            int[] w = new int[5];
            for (int i = 0; i < 20; i++) {
                int sign = from + i < text.length() ? text.charAt(from + i) : dice.below(256);
                w[i / 4] = w[i / 4] << 8 | sign;
            }
            same(calls, "append of '" + text.substring(from, Math.min(from + 20, text.length())) + "'",
                    () -> walk.append(w[0], w[1], w[2], w[3], w[4]), () -> model.append(w));
        }
        same(calls, "load(" + text.length() + ") of " + text,
                () -> walk.load(text.length()), () -> model.load(text.length()));
        same(calls, "errorOffset()", walk::errorOffset, model::errorOffset);
    }

    private static void same(List<String> calls, String name, Check.Call call, Check.Call modelCall) {
        Object got = Check.answerOf(call);
        Object due = Check.answerOf(modelCall);
        compared++;
        used++;
        calls.add(name + " -> " + got);
        if (!Objects.equals(got, due)) {
            wrong++;
            System.out.println(name + " answered " + got + ", due is " + due);
        }
    }

    private static void compareCall(TreasureWalk walk, Model model, List<String> calls) {
        int width = model.state(0);
        int height = model.state(1);
        int x = dice.below(20) == 0 ? dice.oneOf(-1, width) : dice.below(width);
        int y = dice.below(20) == 0 ? dice.oneOf(-1, height) : dice.below(height);
        int clue = indexBelow(model.state(4));
        int bend = indexBelow(model.state(3));
        int small = dice.below(9) - 1;
        String cell = x + ", " + y;
        switch (dice.below(25)) {
            case 0 -> {
                int what = dice.below(15) - 1;
                same(calls, "state(" + what + ")", () -> walk.state(what), () -> model.state(what));
            }
            case 1 -> same(calls, "cell(" + cell + ")", () -> walk.cell(x, y), () -> model.cell(x, y));
            case 2 -> same(calls, "pace(" + cell + ", " + small + ")",
                    () -> walk.pace(x, y, small), () -> model.pace(x, y, small));
            case 3 -> same(calls, "reached(" + clue + ", " + small + ")",
                    () -> walk.reached(clue, small), () -> model.reached(clue, small));
            case 4 -> same(calls, "ends(" + clue + ", " + cell + ")",
                    () -> walk.ends(clue, x, y), () -> model.ends(clue, x, y));
            case 5 -> same(calls, "why(" + cell + ")", () -> walk.why(x, y), () -> model.why(x, y));
            case 6, 7, 8 -> compareWalks(walk, model, calls, clue);
            case 9 -> same(calls, "starts(" + clue + ", " + cell + ")",
                    () -> walk.starts(clue, x, y), () -> model.starts(clue, x, y));
            case 10 -> same(calls, "distance(" + cell + ")",
                    () -> walk.distance(x, y), () -> model.distance(x, y));
            case 11 -> same(calls, "nearest()", walk::nearest, model::nearest);
            case 12 -> same(calls, "tour()", walk::tour, model::tour);
            case 13 -> same(calls, "part(" + cell + ")", () -> walk.part(x, y), () -> model.part(x, y));
            case 14 -> same(calls, "meanDistance()", walk::meanDistance, model::meanDistance);
            case 15 -> same(calls, "chestIsLeft()", walk::chestIsLeft, model::chestIsLeft);
            case 16 -> same(calls, "moveTo(" + cell + ")", () -> walk.moveTo(x, y), () -> model.moveTo(x, y));
            case 17 -> same(calls, "dig()", walk::dig, model::dig);
            case 18, 19 -> {
                boolean isUsed = dice.below(3) == 0;
                same(calls, "use(" + clue + ", " + isUsed + ")",
                        () -> walk.use(clue, isUsed), () -> model.use(clue, isUsed));
            }
            case 20 -> {
                int n = dice.oneOf(-1, 10000, 9999, dice.below(10000), dice.below(9), dice.below(9));
                same(calls, "hide(" + n + ")", () -> walk.hide(n), () -> model.hide(n));
            }
            case 21 -> {
                int turn = dice.below(20) == 0 ? dice.oneOf(-4, 4) : dice.below(7) - 3;
                same(calls, "turn(" + bend + ", " + turn + ")",
                        () -> walk.turn(bend, turn), () -> model.turn(bend, turn));
            }
            case 22, 23 -> same(calls, "undo()", walk::undo, model::undo);
            default -> same(calls, "checksum()", walk::checksum, model::checksum);
        }
    }

    /** An index, at times one below the least or above the greatest. */
    private static int indexBelow(int count) {
        return count == 0 || dice.below(20) == 0 ? dice.oneOf(-1, count) : dice.below(count);
    }

    /** Compares the walks and starts to the cells of a clue's region, but to some others too. */
    private static void compareWalks(TreasureWalk walk, Model model, List<String> calls, int clue) {
        int width = model.state(0);
        int cells = width * model.state(1);
        int skip = 1 + dice.below(7);
        for (int cell = dice.below(skip); cell < cells && used < MOST_CALLS - SPARE_CALLS; cell += skip) {
            int x = cell % width;
            int y = cell / width;
            int leg = dice.below(3);
            same(calls, "walk(" + clue + ", " + x + ", " + y + ", " + leg + ")",
                    () -> walk.walk(clue, x, y, leg), () -> model.walk(clue, x, y, leg));
            same(calls, "starts(" + clue + ", " + x + ", " + y + ")",
                    () -> walk.starts(clue, x, y), () -> model.starts(clue, x, y));
        }
    }
}
