/** The boundary cases of promises 5 to 7: state, cell and pace. */
final class MapBoundaries {
    private MapBoundaries() {
    }

    static void run() {
        leastStates();
        greatestStates();
        pacesSinceTheLoad();
        statesThatAreNone();
        kindsOfCells();
        cellsThatAreNone();
        pacesFromWater();
        pacesThatCannotBeMade();
        pacesFromNoCell();
        pacesByNoBearing();
    }

    private static void leastStates() {
        Check.sentence("0 the width, 1 the height, 2 marks, 3 bends, 4 clues, 5 clues that are in use, 6 candidates, "
                + "7 those that are left, 8 cells that are dug, 9 the parts of what is left, 10 the cell of the team");
        Check.states("all least", Check.loaded("walk 1 1;"), 1, 1, 0, 0, 0, 0, 1, 1, 0, 1, 0, 0, 0);
        TreasureWalk walk = Check.loaded("walk 2 1;mark a 0 0;mark b 1 0;clue a;clue b;");
        Check.states("no candidate", walk, 2, 1, 2, 0, 2, 2, 0, 0, 0, 0, 0, 0, 0);
        walk.use(0, false);
        Check.states("one clue in use", walk, 2, 1, 2, 0, 2, 1, 1, 1, 0, 1, 0, 0, 0);
        walk.moveTo(1, 0);
        walk.dig();
        Check.states("a candidate that is not left", walk, 2, 1, 2, 0, 2, 1, 1, 0, 1, 0, 1, 1, 0);
        walk.use(1, false);
        Check.states("no clue in use", walk, 2, 1, 2, 0, 2, 0, 2, 1, 1, 1, 1, 1, 0);
    }

    private static void greatestStates() {
        Check.sentence("0 the width, 1 the height, 2 marks, 3 bends, 4 clues, 5 clues that are in use, 6 candidates, "
                + "7 those that are left, 8 cells that are dug, 9 the parts of what is left, 10 the cell of the team, "
                + "11 the paces that it made since the latest successful load, "
                + "12 the chest: 0 none, 1 hidden, 2 found");
        StringBuilder text = new StringBuilder("walk 20 20;team 19 19;");
        for (int i = 0; i < 8; i++) {
            text.append("mark ").append((char) ('a' + i)).append(" 0 0;bend 0 0 19 19 left 1;");
        }
        text.append("clue a;clue b;clue c;clue d;");
        TreasureWalk walk = Check.loaded(text.toString());
        Check.states("all clues in use", walk, 20, 20, 8, 8, 4, 4, 1, 1, 0, 1, 399, 0, 0);
        for (int i = 0; i < 4; i++) {
            walk.use(i, false);
        }
        walk.hide(399);
        walk.dig();
        Check.states("none in use", walk, 20, 20, 8, 8, 4, 0, 400, 399, 1, 1, 399, 0, 2);
        TreasureWalk dug = Check.loaded("walk 12 12;");
        for (int cell = 0; cell < 144; cell++) {
            dug.moveTo(cell % 12, cell / 12);
            dug.dig();
        }
        Check.states("all dug", dug, 12, 12, 0, 0, 0, 0, 144, 0, 144, 0, 143, 143 + 11 * 10, 0);
        TreasureWalk parts = Check.loaded("walk 20 20;water 1 0 1 19;water 3 0 3 19;water 5 0 5 19;water 7 0 7 19;"
                + "water 9 0 9 19;water 11 0 11 19;water 13 0 13 19;water 15 0 15 19;water 17 0 17 19;"
                + "water 19 0 19 19;water 0 1 19 1;water 0 3 19 3;water 0 5 19 5;water 0 7 19 7;water 0 9 19 9;"
                + "water 0 11 19 11;water 0 13 19 13;water 0 15 19 15;water 0 17 19 17;water 0 19 19 19;");
        Check.states("a hundred parts", parts, 20, 20, 0, 0, 0, 0, 100, 100, 0, 100, 0, 0, 0);
    }

    private static void pacesSinceTheLoad() {
        Check.sentence("11 the paces that it made since the latest successful load");
        TreasureWalk walk = Check.loaded("walk 20 20;");
        Check.answers(0, "no pace", () -> walk.state(11));
        walk.moveTo(0, 0);
        Check.answers(0, "a move of no pace", () -> walk.state(11));
        walk.moveTo(19, 3);
        walk.moveTo(18, 3);
        Check.answers(20, "two moves", () -> walk.state(11));
        Check.load(walk, "walk 20 20;water 0 0 19 19;");
        Check.answers(20, "a load that finds an error", () -> walk.state(11));
        Check.load(walk, "walk 20 20;");
        Check.answers(0, "a load", () -> walk.state(11));
        walk.undo();
        Check.answers(20, "undo of the load", () -> walk.state(11));
        walk.undo();
        Check.answers(19, "undo of a move", () -> walk.state(11));
    }

    private static void statesThatAreNone() {
        Check.sentence("Throws `IllegalArgumentException` if what is out of range");
        TreasureWalk walk = Check.loaded("walk 3 3;");
        for (int what : new int[] {-1, 13, 14, -13, 256, Integer.MIN_VALUE, Integer.MAX_VALUE}) {
            Check.illegal("state(" + what + ")", () -> walk.state(what));
        }
        Check.answers(3, "state(0)", () -> walk.state(0));
        Check.answers(0, "state(12)", () -> walk.state(12));
    }

    private static void kindsOfCells() {
        Check.sentence("Returns 0 water, 1 land that is no candidate and is not dug, 2 land that is no candidate and "
                + "is dug, 3 a candidate that is left, 4 a candidate that is dug.");
        TreasureWalk walk = Check.loaded("walk 5 1;water 4 0 4 0;mark a 0 0;mark b 2 0;clue a or b;");
        cells(walk, "3 1 3 1 0");
        walk.dig();
        walk.moveTo(1, 0);
        walk.dig();
        cells(walk, "4 2 3 1 0");
        walk.use(0, false);
        cells(walk, "4 4 3 3 0");
        walk.moveTo(3, 0);
        walk.dig();
        walk.use(0, true);
        cells(walk, "4 2 3 2 0");
        TreasureWalk none = Check.loaded("walk 3 1;mark a 0 0;mark b 2 0;clue a;clue b;");
        cells(none, "1 1 1");
        none.dig();
        cells(none, "2 1 1");
    }

    private static void cells(TreasureWalk walk, String due) {
        StringBuilder cells = new StringBuilder();
        int width = walk.state(0);
        for (int x = 0; x < width; x++) {
            cells.append(x == 0 ? "" : " ").append(walk.cell(x, 0));
        }
        Check.answers(due, "cells", () -> cells.toString());
    }

    private static void cellsThatAreNone() {
        Check.sentence("Throws `IndexOutOfBoundsException` if there is no such cell");
        TreasureWalk walk = Check.loaded("walk 3 2;water 2 1 2 1;");
        Check.outside("x too small", () -> walk.cell(-1, 1));
        Check.outside("x too great", () -> walk.cell(3, 0));
        Check.outside("y too small", () -> walk.cell(2, -1));
        Check.outside("y too great", () -> walk.cell(0, 2));
        Check.answers(0, "the last cell", () -> walk.cell(2, 1));
    }

    private static void pacesFromWater() {
        Check.sentence("Returns the number of the cell to which a pace by this bearing leads, with all bends; -1 if it "
                + "cannot be made (also from water it is made if it can).");
        TreasureWalk walk = Check.loaded("walk 3 3;water 0 0 2 0;water 1 1 1 1;bend 1 1 1 1 right 1;"
                + "bend 0 0 0 0 left 3;");
        int[] due = {-1, 5, 8, 7, 6, 3, -1, -1};
        for (int i = 0; i < 8; i++) {
            int bearing = i;
            Check.answers(due[i], "pace from water by " + i, () -> walk.pace(1, 1, bearing));
        }
        Check.answers(-1, "pace from water onto water", () -> walk.pace(0, 0, 6));
        Check.answers(3, "pace from water onto land", () -> walk.pace(0, 0, 7));
        Check.answers(-1, "pace from water off the map", () -> walk.pace(0, 0, 3));
    }

    private static void pacesThatCannotBeMade() {
        Check.sentence("-1 if it cannot be made");
        TreasureWalk walk = Check.loaded("walk 3 2;water 2 0 2 1;bend 1 1 1 1 left 2;");
        Check.answers(-1, "onto water", () -> walk.pace(1, 0, 2));
        Check.answers(-1, "off the map", () -> walk.pace(0, 0, 7));
        Check.answers(-1, "off the map by a bend", () -> walk.pace(1, 1, 6));
        Check.answers(-1, "onto water by a bend", () -> walk.pace(1, 1, 4));
        Check.answers(1, "onto land by a bend, where water is without it", () -> walk.pace(1, 1, 2));
        Check.answers(0, "to cell 0", () -> walk.pace(1, 0, 6));
    }

    private static void pacesFromNoCell() {
        Check.sentence("Throws `IndexOutOfBoundsException` if there is no such cell");
        TreasureWalk walk = Check.loaded("walk 3 2;");
        Check.outside("from the west of the map", () -> walk.pace(-1, 0, 2));
        Check.outside("from the east of the map", () -> walk.pace(3, 0, 6));
        Check.outside("from the north of the map", () -> walk.pace(0, -1, 4));
        Check.outside("from the south of the map", () -> walk.pace(0, 2, 0));
    }

    private static void pacesByNoBearing() {
        Check.sentence("Throws `IllegalArgumentException` if there is no such bearing");
        TreasureWalk walk = Check.loaded("walk 3 3;bend 1 1 1 1 right 3;");
        Check.illegal("bearing -1", () -> walk.pace(1, 1, -1));
        Check.illegal("bearing 8", () -> walk.pace(1, 1, 8));
        Check.answers(8, "bearing 0", () -> walk.pace(1, 1, 0));
        Check.answers(5, "bearing 7", () -> walk.pace(1, 1, 7));
    }
}
