/** The boundary cases of promises 8 to 12: reached, ends, why, walk and starts. */
final class ClueBoundaries {
    private ClueBoundaries() {
    }

    static void run() {
        cellsReached();
        cluesNotReached();
        numbersOfLegs();
        cellsOfRegions();
        regionsThatAreNone();
        reasons();
        reasonsOfNoCell();
        walksByStarts();
        walksByPaces();
        walksThatAreNone();
        walksToOtherCells();
        startsCounted();
        startsOfNone();
    }

    private static void reaches(TreasureWalk walk, int clue, int... due) {
        for (int i = 0; i < due.length; i++) {
            int legs = i;
            Check.answers(due[i], "reached(" + clue + ", " + i + ")", () -> walk.reached(clue, legs));
        }
    }

    private static void cellsReached() {
        Check.sentence("Returns the number of cells at which the first so many legs of the clue can end "
                + "(its starts: 0).");
        TreasureWalk walk = Check.loaded("walk 20 20;mark a 0 0;mark b 0 0;mark c 19 19;"
                + "clue a;clue a or b;clue c or b or a go 5 e give 5 go 5 s give 5 go 0 n end nw;"
                + "clue a to c e go 0 n give 5;");
        reaches(walk, 0, 1);
        reaches(walk, 1, 1);
        reaches(walk, 2, 2, 12, 122, 122, 21);
        reaches(walk, 3, 1, 0, 0);
        walk.use(2, false);
        reaches(walk, 2, 2, 12, 122, 122, 21);
        TreasureWalk all = Check.loaded("walk 11 11;mark a 0 0;clue a go 5 e give 5 go 5 s give 5;");
        reaches(all, 0, 1, 11, 121);
        TreasureWalk one = Check.loaded("walk 1 1;mark a 0 0;clue a" + " end n".repeat(8) + ";");
        reaches(one, 0, 1, 1, 1, 1, 1, 1, 1, 1, 1);
    }

    private static void cluesNotReached() {
        Check.sentence("Throws `IndexOutOfBoundsException` if there is no such clue");
        TreasureWalk walk = Check.loaded("walk 2 1;mark a 0 0;clue a;clue a;");
        Check.outside("reached(-1, 0)", () -> walk.reached(-1, 0));
        Check.outside("reached(2, 0)", () -> walk.reached(2, 0));
        Check.answers(1, "reached(1, 0)", () -> walk.reached(1, 0));
        Check.outside("use(2, true)", () -> walk.use(2, true));
        Check.outside("use(-1, true)", () -> walk.use(-1, true));
    }

    private static void numbersOfLegs() {
        Check.sentence("Throws `IllegalArgumentException` if it has not so many legs, or legs is negative");
        TreasureWalk walk = Check.loaded("walk 2 1;mark a 0 0;clue a;clue a end n;clue a" + " end n".repeat(8) + ";");
        int[] legs = {0, 1, 8};
        for (int i = 0; i < 3; i++) {
            int clue = i;
            int most = legs[i];
            Check.answers(1, "all legs of clue " + i, () -> walk.reached(clue, most));
            for (int wrong : new int[] {-1, -8, most + 1, 9, 10, Integer.MIN_VALUE, Integer.MAX_VALUE}) {
                Check.illegal("reached(" + i + ", " + wrong + ")", () -> walk.reached(clue, wrong));
            }
        }
    }

    private static void cellsOfRegions() {
        Check.sentence("Returns whether the cell is in the region of the clue.");
        String text = "walk 3 3;mark a 0 0;mark b 2 2;water 1 1 1 1;clue a;clue a or b;clue a go 1 e give 1;"
                + "clue a to b e;";
        Check.region(text, 0, "0,0");
        Check.region(text, 1, "0,0 2,2");
        Check.region(text, 2, "0,0 1,0 2,0");
        Check.region(text, 3, "");
        TreasureWalk walk = Check.loaded(text);
        for (int clue = 0; clue < 4; clue++) {
            walk.use(clue, false);
        }
        Check.region(walk, 1, "0,0 2,2");
        walk.dig();
        Check.region(walk, 2, "0,0 1,0 2,0");
        Check.region("walk 20 1;mark a 0 0;mark b 19 0;clue b or a;", 0, "0,0 19,0");
    }

    private static void regionsThatAreNone() {
        Check.sentence("Throws `IndexOutOfBoundsException` if there is no such clue or cell");
        TreasureWalk walk = Check.loaded("walk 3 2;mark a 2 1;clue a;clue a;");
        int[][] wrongs = {{-1, 2, 1}, {2, 2, 1}, {0, 3, 0}, {0, -1, 1}, {0, 0, 2}, {0, 2, -1}, {2, 3, 2}};
        for (int[] wrong : wrongs) {
            Check.outside("ends", () -> walk.ends(wrong[0], wrong[1], wrong[2]));
            Check.outside("starts", () -> walk.starts(wrong[0], wrong[1], wrong[2]));
        }
        Check.answers(true, "ends(1, 2, 1)", () -> walk.ends(1, 2, 1));
        Check.answers(1, "starts(1, 2, 1)", () -> walk.starts(1, 2, 1));
    }

    private static void reasons() {
        Check.sentence("Returns 0 if it is a candidate, -1 if it is water, otherwise 1 more than the first clue in use "
                + "whose region does not have it.");
        TreasureWalk walk = Check.loaded("walk 7 1;water 6 0 6 0;mark a 0 0;clue a go 2 e give 2;clue a go 3 e give 2;"
                + "clue a go 3 e give 1;clue a go 3 e;");
        reasons(walk, "2 3 4 0 4 1 -1");
        walk.use(3, false);
        reasons(walk, "2 3 0 0 0 1 -1");
        walk.use(0, false);
        reasons(walk, "2 3 0 0 0 3 -1");
        walk.use(2, false);
        reasons(walk, "2 0 0 0 0 0 -1");
        walk.use(1, false);
        reasons(walk, "0 0 0 0 0 0 -1");
        walk.use(3, true);
        reasons(walk, "4 4 4 0 4 4 -1");
        walk.moveTo(3, 0);
        walk.dig();
        reasons(walk, "4 4 4 0 4 4 -1");
    }

    private static void reasons(TreasureWalk walk, String due) {
        StringBuilder reasons = new StringBuilder();
        int width = walk.state(0);
        for (int x = 0; x < width; x++) {
            reasons.append(x == 0 ? "" : " ").append(walk.why(x, 0));
        }
        Check.answers(due, "why", () -> reasons.toString());
    }

    private static void reasonsOfNoCell() {
        Check.sentence("Throws `IndexOutOfBoundsException` if there is no such cell");
        TreasureWalk walk = Check.loaded("walk 3 2;");
        Check.outside("why(3, 0)", () -> walk.why(3, 0));
        Check.outside("why(-1, 1)", () -> walk.why(-1, 1));
        Check.outside("why(0, 2)", () -> walk.why(0, 2));
        Check.outside("why(2, -1)", () -> walk.why(2, -1));
        Check.answers(0, "why(2, 1)", () -> walk.why(2, 1));
    }

    /** A start told first counts more than few paces, and than the letter and the cell of a mark. */
    private static void walksByStarts() {
        Check.sentence("of all walks that end there the first one, if they are compared by their starts "
                + "(as they are told in the clue)");
        TreasureWalk walk = Check.loaded("walk 12 1;mark a 6 0;mark b 5 0;mark c 0 0;mark d 6 0;"
                + "clue a or b or c go 6 e give 5;clue c or b or a go 6 e give 5;clue b or d or c go 6 e give 5;"
                + "clue d or b or a go 2 e give 1;");
        Check.answers(1, "the first start is the nearest", () -> walk.walk(0, 7, 0, 0));
        Check.answers(7, "the first start is the farthest", () -> walk.walk(1, 7, 0, 0));
        Check.answers(11, "as far as it can be", () -> walk.walk(1, 11, 0, 0));
        Check.answers(2, "the first start is in the middle", () -> walk.walk(2, 7, 0, 0));
        Check.answers(1, "the first start does not lead there", () -> walk.walk(0, 6, 0, 0));
        Check.answers(5, "nor the second one", () -> walk.walk(0, 5, 0, 0));
        Check.answers(1, "the last start alone leads there", () -> walk.walk(2, 1, 0, 0));
        Check.answers(3, "starts on one cell", () -> walk.walk(3, 9, 0, 0));
        Check.answers(1, "only the second start leads there", () -> walk.walk(3, 6, 0, 0));
    }

    private static void walksByPaces() {
        Check.sentence("then by the paces of their first leg, then of their second one, and so on (less is ahead).");
        TreasureWalk walk = Check.loaded("walk 20 1;mark a 0 0;clue a go 5 e give 5 go 5 e give 5 go 5 e give 5;"
                + "clue a go 3 e give 2 go 3 e give 2 go 3 e give 2;"
                + "clue a go 5 e give 5 go 3 w give 3 go 4 e give 2 end w;"
                + "clue a go 0 e give 3 go 0 e give 3 go 0 e give 3 go 0 e give 3 go 0 e give 3 go 0 e give 3 "
                + "go 0 e give 3 go 0 e give 3;");
        legs(walk, 0, 0, 0, 0, 0);
        legs(walk, 0, 10, 0, 0, 10);
        legs(walk, 0, 11, 0, 1, 10);
        legs(walk, 0, 19, 0, 9, 10);
        legs(walk, 1, 3, 1, 1, 1);
        legs(walk, 1, 7, 1, 1, 5);
        legs(walk, 1, 8, 1, 2, 5);
        legs(walk, 1, 11, 1, 5, 5);
        legs(walk, 1, 12, 2, 5, 5);
        legs(walk, 1, 15, 5, 5, 5);
        legs(walk, 2, 0, 0, 0, 2, 2);
        legs(walk, 3, 0, 0, 0, 0, 0, 0, 0, 0, 0);
        legs(walk, 3, 3, 0, 0, 0, 0, 0, 0, 0, 3);
        legs(walk, 3, 13, 0, 0, 0, 1, 3, 3, 3, 3);
        legs(walk, 3, 19, 0, 1, 3, 3, 3, 3, 3, 3);
    }

    private static void legs(TreasureWalk walk, int clue, int x, int... due) {
        for (int i = 0; i < due.length; i++) {
            int leg = i;
            Check.answers(due[i], "walk(" + clue + ", " + x + ", 0, " + i + ")", () -> walk.walk(clue, x, 0, leg));
        }
    }

    private static void walksThatAreNone() {
        Check.sentence("Throws `IndexOutOfBoundsException` if there is no such clue, cell or leg");
        TreasureWalk walk = Check.loaded("walk 3 2;mark a 2 1;clue a go 0 e go 0 n;clue a end n;");
        int[][] wrongs = {{-1, 2, 1, 0}, {2, 2, 1, 0}, {0, 3, 1, 0}, {0, -1, 1, 0}, {0, 2, 2, 0}, {0, 2, -1, 0},
            {0, 2, 1, 2}, {0, 2, 1, -1}, {1, 2, 0, 1}, {0, 0, 0, 2}, {0, 0, 0, -1}};
        for (int[] wrong : wrongs) {
            Check.outside("walk(" + wrong[0] + ", " + wrong[1] + ", " + wrong[2] + ", " + wrong[3] + ")",
                    () -> walk.walk(wrong[0], wrong[1], wrong[2], wrong[3]));
        }
        Check.answers(0, "walk(0, 2, 1, 1)", () -> walk.walk(0, 2, 1, 1));
        Check.answers(1, "walk(1, 2, 0, 0)", () -> walk.walk(1, 2, 0, 0));
    }

    private static void walksToOtherCells() {
        Check.sentence("Throws `NoSuchElementException` if the cell is not in the region of the clue");
        TreasureWalk walk = Check.loaded("walk 4 2;water 3 1 3 1;mark a 0 0;mark b 2 0;clue a go 1 e give 1 go 1 s;"
                + "clue a to b s;");
        for (int cell = 0; cell < 8; cell++) {
            int x = cell % 4;
            int y = cell / 4;
            Object due = y == 1 && x < 3 ? x : "NoSuchElementException";
            Check.answers(due, "walk to " + x + "," + y, () -> walk.walk(0, x, y, 0));
            Check.none("walk of a clue that ends nowhere", () -> walk.walk(1, x, y, 0));
        }
        walk.use(0, false);
        Check.answers(2, "a clue out of use has walks", () -> walk.walk(0, 2, 1, 0));
    }

    private static void startsCounted() {
        Check.sentence("Returns the number of the starts of the clue from which some walk of it ends at the cell.");
        TreasureWalk walk = Check.loaded("walk 9 1;water 8 0 8 0;mark a 0 0;mark b 1 0;mark c 2 0;"
                + "mark d 3 0;mark e 4 0;mark f 5 0;mark g 6 0;mark h 6 0;"
                + "clue a or b or c or d or e or f or g or h go 3 e give 3;clue h or g;clue a or b to c e;"
                + "clue a or e or h go 1 e give 1 go 1 w give 1;");
        counts(walk, 0, "1 2 3 4 5 6 8 7 0");
        counts(walk, 1, "0 0 0 0 0 0 2 0 0");
        counts(walk, 2, "0 0 2 0 0 0 0 0 0");
        counts(walk, 3, "1 1 2 1 2 2 2 1 0");
        walk.use(0, false);
        counts(walk, 0, "1 2 3 4 5 6 8 7 0");
    }

    private static void counts(TreasureWalk walk, int clue, String due) {
        StringBuilder counts = new StringBuilder();
        int width = walk.state(0);
        for (int x = 0; x < width; x++) {
            counts.append(x == 0 ? "" : " ").append(walk.starts(clue, x, 0));
        }
        Check.answers(due, "starts of clue " + clue, () -> counts.toString());
    }

    private static void startsOfNone() {
        Check.sentence("Throws `IndexOutOfBoundsException` if there is no such clue or cell");
        TreasureWalk walk = new TreasureWalk();
        Check.outside("ends without clues", () -> walk.ends(0, 0, 0));
        Check.outside("starts without clues", () -> walk.starts(0, 0, 0));
        TreasureWalk full = Check.loaded("walk 20 20;mark a 19 19;clue a;clue a;clue a;clue a;");
        Check.answers(1, "starts(3, 19, 19)", () -> full.starts(3, 19, 19));
        Check.outside("starts(4, 19, 19)", () -> full.starts(4, 19, 19));
        Check.outside("starts(3, 20, 19)", () -> full.starts(3, 20, 19));
        Check.outside("starts(3, 19, 20)", () -> full.starts(3, 19, 20));
    }
}
