import java.util.ArrayList;
import java.util.List;

/** The boundary cases of changes, of their undoing and of the exceptions. */
final class ChangeBoundaries {
    /** Six by four, with two bends and two clues, the second of which has no leg. */
    private static final String MAP = "walk 6 4;water 0 3 0 3;mark a 0 1;mark b 5 1;bend 2 0 3 3 right 1;"
            + "bend 4 0 4 3 left 2;team 1 1;clue a or b go 2 e give 2 go 0 s;clue b or a;";
    private static final int[] FAR = {Integer.MIN_VALUE, -1000, 1000, Integer.MAX_VALUE};

    private ChangeBoundaries() {
    }

    static void run() {
        changesThatChangeNothing();
        callsThatAreNoChanges();
        eightChangesCanBeUndone();
        aNinthChangeMakesOneFinal();
        undoneChangesDoNotCount();
        finalChangesStayFinal();
        aheadOfTheFirstLoad();
        cellsThatAreNone();
        cluesThatAreNone();
        legsThatAreNone();
        bendsThatAreNone();
        bearingsThatAreNone();
        theFirstOfSeveralExceptions();
        exceptionsChangeNothing();
        fiveHundredAndTwelveCalls();
    }

    private static void undoes(TreasureWalk walk, int changes) {
        for (int left = changes - 1; left >= 0; left--) {
            Check.answers(left, "undo with " + (left + 1) + " changes", () -> walk.undo());
        }
        Check.answers(-1, "undo without a change", () -> walk.undo());
    }

    private static void changesThatChangeNothing() {
        Check.sentence("each such call that does not throw an exception is a change, "
                + "also if all data stay as they were.");
        TreasureWalk loads = Check.loaded("walk 1 1;");
        undoes(loads, 1);
        Check.load(loads, "walk 1 1;");
        Check.load(loads, "walk 1 1;");
        undoes(loads, 2);
        TreasureWalk walk = Check.loaded(MAP);
        walk.dig();
        long sum = walk.checksum();
        Check.answers(0, "moveTo to where the team is", () -> walk.moveTo(1, 1));
        Check.answers(0, "dig where it was dug", () -> walk.dig());
        Check.answers(2, "use of a clue in use", () -> walk.use(1, true));
        Check.answers(1, "turn to the turn that it has", () -> walk.turn(0, 1));
        Check.answers(-2, "turn to the turn that it has", () -> walk.turn(1, -2));
        Check.answers(sum, "all data are as they were", () -> walk.checksum());
        undoes(walk, 7);
        TreasureWalk empty = Check.loaded("walk 1 1;");
        empty.dig();
        Check.answers(0, "hide where none is left", () -> empty.hide(0));
        Check.answers(0, "and again", () -> empty.hide(0));
        undoes(empty, 4);
        TreasureWalk fresh = new TreasureWalk();
        fresh.moveTo(0, 0);
        undoes(fresh, 1);
    }

    private static void callsThatAreNoChanges() {
        Check.sentence("The changing methods are load (when it succeeds), moveTo (when there is a way), "
                + "dig, use, hide and turn");
        TreasureWalk walk = Check.loaded(MAP);
        walk.append(1, 2, 3, 4, 5);
        Check.answers(-2, "load that finds an error", () -> walk.load(20));
        Check.answers(-1, "moveTo without a way", () -> walk.moveTo(0, 3));
        askAll(walk);
        undoes(walk, 1);
        Check.answers(-2, "load that finds an error", () -> walk.load(0));
        undoes(walk, 0);
        Check.load(walk, MAP);
        walk.moveTo(2, 2);
        walk.dig();
        walk.use(0, false);
        walk.hide(3);
        walk.turn(0, 2);
        Check.answers(5, "undo", () -> walk.undo());
        askAll(walk);
        Check.answers(-1, "moveTo without a way", () -> walk.moveTo(0, 3));
        undoes(walk, 5);
    }

    private static void askAll(TreasureWalk walk) {
        walk.errorOffset();
        walk.state(9);
        walk.cell(0, 0);
        walk.pace(0, 0, 0);
        walk.reached(0, 2);
        walk.ends(0, 0, 0);
        walk.why(0, 0);
        Check.answerOf(() -> walk.walk(0, 0, 0, 0));
        walk.starts(0, 0, 0);
        walk.distance(0, 0);
        walk.nearest();
        walk.tour();
        walk.part(0, 0);
        walk.meanDistance();
        walk.chestIsLeft();
        walk.checksum();
    }

    /** Makes a change of another kind for each number: none is like another in what it does. */
    private static void change(TreasureWalk walk, int number) {
        switch (number % 6) {
            case 0 -> walk.moveTo(number % 5, 0);
            case 1 -> walk.dig();
            case 2 -> walk.use(1, number % 4 == 0);
            case 3 -> walk.hide(number);
            case 4 -> walk.turn(0, number % 7 - 3);
            default -> Check.load(walk, "walk 6 5;mark b 0 2;bend 0 0 5 4 left 1;clue b;clue b go " + number
                    + " e give 5;");
        }
    }

    private static void eightChangesCanBeUndone() {
        Check.sentence("The latest 8 changes can be undone, the latest one first");
        for (int changes = 0; changes <= 8; changes++) {
            TreasureWalk walk = new TreasureWalk();
            long first = walk.checksum();
            long[] sums = new long[changes];
            int[] spots = new int[changes];
            for (int i = 0; i < changes; i++) {
                sums[i] = walk.checksum();
                spots[i] = walk.state(10);
                change(walk, i == 0 ? 5 : i + 5);
            }
            for (int left = changes - 1; left >= 0; left--) {
                int due = left;
                Check.answers(due, changes + " changes: undo", () -> walk.undo());
                Check.answers(sums[left], changes + " changes: data with " + left, () -> walk.checksum());
                Check.answers(spots[left], changes + " changes: team with " + left, () -> walk.state(10));
            }
            Check.answers(-1, changes + " changes: no more", () -> walk.undo());
            Check.answers(first, changes + " changes: data ahead of all", () -> walk.checksum());
        }
    }

    private static void aNinthChangeMakesOneFinal() {
        Check.sentence("a change is final as soon as 8 later ones, none of them undone, have been made.");
        for (int changes = 9; changes <= 26; changes++) {
            TreasureWalk walk = new TreasureWalk();
            List<Long> sums = new ArrayList<>();
            for (int i = 0; i < changes; i++) {
                sums.add(walk.checksum());
                change(walk, i + 5);
            }
            int first = changes - 8;
            undoes(walk, 8);
            Check.answers(sums.get(first), changes + " changes: data behind the final ones", () -> walk.checksum());
        }
    }

    private static void undoneChangesDoNotCount() {
        Check.sentence("a change is final as soon as 8 later ones, none of them undone, have been made.");
        TreasureWalk walk = Check.loaded("walk 20 1;");
        for (int x = 1; x <= 7; x++) {
            walk.moveTo(x, 0);
        }
        Check.answers(7, "the seventh move is undone", () -> walk.undo());
        walk.moveTo(17, 0);
        Check.answers(7, "another seventh move is undone", () -> walk.undo());
        walk.moveTo(18, 0);
        undoes(walk, 8);
        Check.answers(1, "the load is undone too", () -> walk.state(0));
        Check.load(walk, "walk 20 1;");
        for (int x = 1; x <= 8; x++) {
            walk.moveTo(x, 0);
        }
        undoes(walk, 8);
        Check.answers(20, "the load is final", () -> walk.state(0));
        Check.answers(0, "no move is final", () -> walk.state(10));
    }

    private static void finalChangesStayFinal() {
        Check.sentence("a change is final as soon as 8 later ones, none of them undone, have been made.");
        TreasureWalk walk = Check.loaded("walk 20 1;");
        for (int x = 1; x <= 10; x++) {
            walk.moveTo(x, 0);
        }
        Check.answers(7, "undo", () -> walk.undo());
        Check.answers(6, "undo", () -> walk.undo());
        Check.answers(5, "undo", () -> walk.undo());
        walk.moveTo(15, 0);
        Check.answers(5, "undo of a new move", () -> walk.undo());
        Check.answers(7, "the team behind it", () -> walk.state(10));
        undoes(walk, 5);
        Check.answers(2, "the final moves stay", () -> walk.state(10));
        Check.answers(2, "and their paces", () -> walk.state(11));
    }

    private static void aheadOfTheFirstLoad() {
        Check.sentence("Before the first successful load the map has one cell, of land, on which the team stands, and "
                + "there are no marks, bends and clues.");
        TreasureWalk walk = new TreasureWalk();
        oneCell("new", walk);
        Check.load(walk, "walk 3 3;mark a 0 0;water 0 0 0 0;");
        oneCell("behind a text with an error", walk);
        Check.load(walk, MAP);
        Check.answers(6, "the width behind a load", () -> walk.state(0));
        walk.undo();
        oneCell("behind undo of the load", walk);
        Check.answers(0, "a move there", () -> walk.moveTo(0, 0));
        Check.answers(1, "dig there", () -> walk.dig());
        Check.answers(0, "hide there", () -> walk.hide(0));
        undoes(walk, 3);
        oneCell("behind undo of all", walk);
    }

    private static void oneCell(String when, TreasureWalk walk) {
        Check.states(when, walk, 1, 1, 0, 0, 0, 0, 1, 1, 0, 1, 0, 0, 0);
        Check.answers(3, when + ": cell", () -> walk.cell(0, 0));
        Check.outside(when + ": another cell", () -> walk.cell(1, 0));
        Check.outside(when + ": clue 0", () -> walk.reached(0, 0));
        Check.outside(when + ": bend 0", () -> walk.turn(0, 0));
        for (int i = 0; i < 8; i++) {
            int bearing = i;
            Check.answers(-1, when + ": pace", () -> walk.pace(0, 0, bearing));
        }
    }

    private static void cellsThatAreNone() {
        Check.sentence("In the methods, IndexOutOfBoundsException is thrown if x and y are not those of a cell");
        int[][] sizes = {{6, 4}, {20, 20}, {8, 3}};
        for (int[] size : sizes) {
            int width = size[0];
            int height = size[1];
            String text = "walk " + width + " " + height + ";mark a 0 0;clue a go 0 e;";
            int[][] cells = {{-1, 0}, {0, -1}, {width, 0}, {0, height}, {-1, 1}, {width, height - 2},
                {width - 1, -1}, {-1, -1}, {width, height}, {width - 1, height}, {32, 0}, {0, 32}, {-32, 1}};
            for (int[] cell : cells) {
                noSuchCell(Check.loaded(text), cell[0], cell[1]);
            }
        }
        for (int far : FAR) {
            noSuchCell(Check.loaded(MAP), far, 0);
            noSuchCell(Check.loaded(MAP), 0, far);
            noSuchCell(Check.loaded(MAP), far, far);
        }
        noSuchCell(Check.loaded("walk 20 20;mark a 0 0;clue a go 0 e;"), 0x10000000, 0);
        noSuchCell(Check.loaded("walk 20 20;mark a 0 0;clue a go 0 e;"), 0, 0x8000000);
    }

    private static void noSuchCell(TreasureWalk walk, int x, int y) {
        String cell = "(" + x + ", " + y + ")";
        Check.outside("cell" + cell, () -> walk.cell(x, y));
        Check.outside("pace" + cell, () -> walk.pace(x, y, 0));
        Check.outside("ends" + cell, () -> walk.ends(0, x, y));
        Check.outside("why" + cell, () -> walk.why(x, y));
        Check.outside("walk" + cell, () -> walk.walk(0, x, y, 0));
        Check.outside("starts" + cell, () -> walk.starts(0, x, y));
        Check.outside("distance" + cell, () -> walk.distance(x, y));
        Check.outside("part" + cell, () -> walk.part(x, y));
        Check.outside("moveTo" + cell, () -> walk.moveTo(x, y));
    }

    private static void cluesThatAreNone() {
        Check.sentence("or a parameter named clue, leg or bend is not the index of such a thing");
        String text = "walk 2 1;mark a 0 0;";
        for (int clues = 0; clues <= 4; clues++) {
            TreasureWalk walk = Check.loaded(text);
            noSuchClue(walk, -1);
            noSuchClue(walk, clues);
            noSuchClue(walk, 4);
            for (int far : FAR) {
                noSuchClue(walk, far);
            }
            text += "clue a go 0 e;";
        }
        noSuchClue(new TreasureWalk(), 0);
    }

    private static void noSuchClue(TreasureWalk walk, int clue) {
        Check.outside("reached(" + clue + ", 0)", () -> walk.reached(clue, 0));
        Check.outside("ends(" + clue + ", 0, 0)", () -> walk.ends(clue, 0, 0));
        Check.outside("walk(" + clue + ", 0, 0, 0)", () -> walk.walk(clue, 0, 0, 0));
        Check.outside("starts(" + clue + ", 0, 0)", () -> walk.starts(clue, 0, 0));
        Check.outside("use(" + clue + ", true)", () -> walk.use(clue, true));
        Check.outside("use(" + clue + ", false)", () -> walk.use(clue, false));
    }

    private static void legsThatAreNone() {
        Check.sentence("(leg is a leg of clue)");
        TreasureWalk walk = Check.loaded("walk 2 1;mark a 0 0;clue a;clue a go 0 e;clue a"
                + " go 0 e".repeat(8) + ";");
        int[] legs = {0, 1, 8};
        for (int i = 0; i < legs.length; i++) {
            int clue = i;
            for (int j = 0; j < legs[i]; j++) {
                int leg = j;
                Check.answers(0, "leg " + j + " of clue " + i, () -> walk.walk(clue, 0, 0, leg));
            }
            for (int wrong : new int[] {-1, legs[i], legs[i] + 1, 8, 9, Integer.MIN_VALUE, Integer.MAX_VALUE}) {
                Check.outside("leg " + wrong + " of clue " + i, () -> walk.walk(clue, 0, 0, wrong));
            }
        }
    }

    private static void bendsThatAreNone() {
        Check.sentence("or a parameter named clue, leg or bend is not the index of such a thing");
        String text = "walk 2 1;";
        for (int bends = 0; bends <= 8; bends++) {
            TreasureWalk walk = Check.loaded(text);
            for (int wrong : new int[] {-1, bends, bends + 1, 8, 9, Integer.MIN_VALUE, Integer.MAX_VALUE}) {
                Check.outside("turn(" + wrong + ", 0) of " + bends + " bends", () -> walk.turn(wrong, 0));
            }
            text += "bend 0 0 1 0 left 1;";
        }
    }

    private static void bearingsThatAreNone() {
        Check.sentence("IllegalArgumentException if bearing is not 0 to 7.");
        TreasureWalk walk = Check.loaded(MAP);
        for (int wrong : new int[] {-1, 8, -8, 15, 16, Integer.MIN_VALUE, Integer.MAX_VALUE}) {
            Check.illegal("pace by " + wrong, () -> walk.pace(0, 0, wrong));
            Check.illegal("pace from water by " + wrong, () -> walk.pace(0, 3, wrong));
        }
        Check.answers(-1, "pace by 0", () -> walk.pace(0, 0, 0));
        Check.answers(-1, "pace by 7", () -> walk.pace(0, 0, 7));
    }

    private static void theFirstOfSeveralExceptions() {
        Check.sentence("If several exceptions apply to a call, "
                + "the one that is listed first with the method is thrown.");
        TreasureWalk walk = Check.loaded(MAP);
        Check.outside("pace: no cell and no bearing", () -> walk.pace(6, 0, 8));
        Check.outside("pace: no cell and no bearing", () -> walk.pace(0, -1, -1));
        Check.outside("reached: no clue and no number of legs", () -> walk.reached(2, 9));
        Check.outside("reached: no clue and a negative number", () -> walk.reached(-1, -1));
        Check.outside("walk: no clue and no walk", () -> walk.walk(2, 0, 0, 0));
        Check.outside("walk: no leg and no walk", () -> walk.walk(0, 5, 3, 2));
        Check.outside("walk: no leg and no walk", () -> walk.walk(0, 5, 0, -1));
        Check.outside("walk: no leg of a clue without legs, and no walk", () -> walk.walk(1, 1, 1, 0));
        Check.outside("walk: no cell", () -> walk.walk(0, 0, 4, 0));
        Check.none("walk: no walk alone", () -> walk.walk(0, 0, 0, 0));
        Check.outside("turn: no bend and no turn", () -> walk.turn(2, 4));
        Check.outside("turn: no bend and no turn", () -> walk.turn(-1, -4));
        Check.illegal("turn: no turn alone", () -> walk.turn(1, 4));
        Check.illegal("reached: no number of legs alone", () -> walk.reached(1, 1));
    }

    private static void exceptionsChangeNothing() {
        Check.sentence("A method that throws an exception changes nothing.");
        TreasureWalk walk = Check.loaded(MAP);
        walk.hide(0);
        walk.moveTo(2, 1);
        walk.dig();
        Check.load(walk, "walk 3 ?");
        Check.append(walk, "walk 7 7; mark a 0 0;");
        long sum = walk.checksum();
        Check.Call[] calls = {() -> walk.load(-1), () -> walk.load(41), () -> walk.state(13), () -> walk.cell(6, 0),
            () -> walk.pace(0, 0, 8), () -> walk.reached(0, 3), () -> walk.ends(2, 0, 0), () -> walk.why(0, 4),
            () -> walk.walk(0, 0, 0, 0), () -> walk.starts(2, 0, 0), () -> walk.distance(-1, 0),
            () -> walk.part(0, -1), () -> walk.moveTo(6, 1), () -> walk.moveTo(-1, 1), () -> walk.use(2, false),
            () -> walk.use(-1, false), () -> walk.hide(-1), () -> walk.hide(10000), () -> walk.turn(2, 0),
            () -> walk.turn(0, 4), () -> walk.turn(0, -4), () -> walk.turn(-1, 0)};
        for (int i = 0; i < calls.length; i++) {
            String thrown = String.valueOf(Check.answerOf(calls[i]));
            Check.answers(true, "call " + i + " throws an exception", () -> thrown.endsWith("Exception"));
            Check.answers(sum, "data behind call " + i, () -> walk.checksum());
            Check.answers(7, "errorOffset behind call " + i, () -> walk.errorOffset());
        }
        Check.answers(0, "the buffer is as it was", () -> walk.load(21));
        Check.answers(7, "its text", () -> walk.state(0));
        Check.answers(4, "undo of that load", () -> walk.undo());
        Check.answers(sum, "data ahead of it", () -> walk.checksum());
        undoes(walk, 4);
    }

    private static void fiveHundredAndTwelveCalls() {
        Check.sentence("An object is used for at most 512 calls after it has been made");
        TreasureWalk walk = new TreasureWalk();
        walk.append(0x77616c6b, 0x20323020, 0x31203b20, 0x20202020, 0x20202020);
        walk.load(12);
        for (int i = 0; i < 509; i++) {
            walk.moveTo(i % 2 == 0 ? 19 : 0, 0);
        }
        Check.answers(509 * 19, "the 512th call", () -> walk.state(11));
    }
}
