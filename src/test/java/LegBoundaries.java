/** The boundary cases of the legs go, to and end. */
final class LegBoundaries {
    /**
     * A walk east from (0, 0) runs round the rim of the map in 76 paces: the cell behind n paces is at
     * the south end of the east side for 38, and goes up the west side from 57.
     */
    private static final String RING = "walk 20 20;bend 19 0 19 19 right 2;bend 1 19 19 19 right 2;"
            + "bend 1 19 18 19 right 2;bend 0 1 0 19 left 2;mark a 0 0;";
    /** A walk east from (0, 0) runs round four cells for ever. */
    private static final String MILL = "walk 3 3;bend 1 0 1 0 right 2;bend 1 1 1 1 right 3;"
            + "bend 1 1 1 1 right 1;bend 0 1 0 1 left 2;mark a 0 0;";
    private static final String[] BEARINGS = {"n", "ne", "e", "se", "s", "sw", "w", "nw"};

    private LegBoundaries() {
    }

    static void run() {
        goFromNoPaceOn();
        goUpToTheMost();
        goAsFarAsPacesCanBeMade();
        goOneByOne();
        toWhereItStands();
        toWithSixtyPaces();
        toThatCannotCome();
        toOneMarkOfSeveral();
        endAtOnce();
        endWithSixtyPaces();
    }

    /** Cells of a row from one x to another one. */
    private static String row(int fromX, int toX) {
        StringBuilder cells = new StringBuilder();
        for (int x = fromX; x <= toX; x++) {
            cells.append(cells.length() == 0 ? "" : " ").append(x).append(",0");
        }
        return cells.toString();
    }

    private static void goFromNoPaceOn() {
        Check.sentence("with any n from N - E (not less than 0) to N + E");
        for (int number = 0; number <= 7; number++) {
            for (int give = 0; give <= 5; give++) {
                Check.region("walk 20 1;mark a 0 0;clue a go " + number + " e give " + give + ";", 0,
                        row(Math.max(0, number - give), number + give));
            }
            Check.region("walk 20 1;mark a 0 0;clue a go " + number + " e;", 0, row(number, number));
        }
        TreasureWalk walk = Check.loaded("walk 20 1;mark a 0 0;clue a go 2 e give 5;");
        for (int i = 0; i <= 7; i++) {
            int paces = i;
            Check.answers(paces, "the paces to cell " + i, () -> walk.walk(0, paces, 0, 0));
        }
        for (String bearing : BEARINGS) {
            Check.region("walk 1 1;mark a 0 0;clue a go 0 " + bearing + ";", 0, "0,0");
            Check.region("walk 1 1;mark a 0 0;clue a go 1 " + bearing + ";", 0, "");
            Check.region("walk 1 1;mark a 0 0;clue a go 1 " + bearing + " give 1;", 0, "0,0");
        }
    }

    private static void goUpToTheMost() {
        Check.sentence("with any n from N - E (not less than 0) to N + E");
        Check.region(RING + "clue a go 30 e;", 0, "19,11");
        Check.region(RING + "clue a go 30 e give 1;", 0, "19,10 19,11 19,12");
        Check.region(RING + "clue a go 30 e give 5;", 0,
                "19,6 19,7 19,8 19,9 19,10 19,11 19,12 19,13 19,14 19,15 19,16");
        TreasureWalk walk = Check.loaded(RING + "clue a go 30 e give 5;");
        Check.answers(25, "the fewest paces", () -> walk.walk(0, 19, 6, 0));
        Check.answers(35, "the most paces", () -> walk.walk(0, 19, 16, 0));
        Check.none("fewer paces", () -> walk.walk(0, 19, 5, 0));
        Check.none("more paces", () -> walk.walk(0, 19, 17, 0));
    }

    private static void goAsFarAsPacesCanBeMade() {
        Check.sentence("for each such n of which all paces can be made, it can end behind them.");
        String text = "walk 9 1;water 4 0 4 0;mark a 0 0;mark b 8 0;";
        Check.region(text + "clue a go 3 e;", 0, "3,0");
        Check.region(text + "clue a go 4 e;", 0, "");
        Check.region(text + "clue a go 5 e;", 0, "");
        Check.region(text + "clue a go 4 e give 1;", 0, "3,0");
        Check.region(text + "clue a go 5 e give 1;", 0, "");
        Check.region(text + "clue a go 5 e give 5;", 0, "0,0 1,0 2,0 3,0");
        Check.region(text + "clue b go 1 e;", 0, "");
        Check.region(text + "clue b go 1 e give 1;", 0, "8,0");
        Check.region(text + "clue a or b go 4 w give 4;", 0, "0,0 5,0 6,0 7,0 8,0");
        Check.region("walk 20 20;mark a 0 0;clue a go 19 se;", 0, "19,19");
        Check.region("walk 20 20;mark a 0 0;clue a go 20 se;", 0, "");
    }

    private static void goOneByOne() {
        Check.sentence("it makes n paces by the bearing, one after the other");
        Check.region(MILL + "clue a go 1 e;", 0, "1,0");
        Check.region(MILL + "clue a go 2 e;", 0, "1,1");
        Check.region(MILL + "clue a go 3 e;", 0, "0,1");
        Check.region(MILL + "clue a go 4 e;", 0, "0,0");
        Check.region(MILL + "clue a go 30 e;", 0, "1,1");
        TreasureWalk walk = Check.loaded(MILL + "clue a go 30 e give 5;clue a go 5 e give 5;");
        Check.answers(4, "all cells of the mill", () -> walk.reached(0, 1));
        Check.answers(25, "the fewest paces of the leg", () -> walk.walk(0, 1, 0, 0));
        Check.answers(28, "three more", () -> walk.walk(0, 0, 0, 0));
        Check.answers(0, "none at all", () -> walk.walk(1, 0, 0, 0));
    }

    private static void toWhereItStands() {
        Check.sentence("- to: it makes paces until it stands on a mark (none, if it stands there already)");
        for (String bearing : BEARINGS) {
            Check.region("walk 1 1;mark a 0 0;clue a to a " + bearing + ";", 0, "0,0");
        }
        TreasureWalk walk = Check.loaded(MILL + "mark b 1 0;clue a to a e;clue b or a to a e;");
        Check.answers(0, "it stands there already", () -> walk.walk(0, 0, 0, 0));
        Check.answers(1, "it ends there alone", () -> walk.reached(0, 1));
        Check.answers(3, "it comes there", () -> walk.walk(1, 0, 0, 0));
        Check.answers(2, "both starts lead there", () -> walk.starts(1, 0, 0));
    }

    private static void toWithSixtyPaces() {
        Check.sentence("60 at most; if it does not come there by these");
        String text = RING + "mark b 0 17;mark c 0 16;mark d 0 15;clue a to b e;clue a to c e;clue a to d e;";
        Check.region(text, 0, "0,17");
        Check.region(text, 1, "0,16");
        Check.region(text, 2, "");
        TreasureWalk walk = Check.loaded(text);
        Check.answers(59, "59 paces", () -> walk.walk(0, 0, 17, 0));
        Check.answers(60, "60 paces", () -> walk.walk(1, 0, 16, 0));
        Check.none("61 paces", () -> walk.walk(2, 0, 15, 0));
        Check.answers(0, "no start leads there", () -> walk.starts(2, 0, 15));
        Check.answers(0, "the leg ends nowhere", () -> walk.reached(2, 1));
        Check.region(MILL + "mark b 2 2;clue a to b e;", 0, "");
        Check.region(RING + "water 0 15 0 15;mark c 0 16;clue a to c e;", 0, "0,16");
        Check.region(RING + "mark c 0 16;clue a go 1 e to c e;", 0, "0,16");
        Check.region(RING + "mark d 0 15;clue a go 1 e to d e;", 0, "0,15");
    }

    private static void toThatCannotCome() {
        Check.sentence("or a pace cannot be made ahead of that, it ends nowhere.");
        String text = "walk 6 2;water 3 0 3 0;mark a 0 0;mark b 2 0;mark c 4 0;mark d 5 1;";
        Check.region(text + "clue a to b e;", 0, "2,0");
        Check.region(text + "clue a to c e;", 0, "");
        Check.region(text + "clue a to d e;", 0, "");
        Check.region(text + "clue c to d se;", 0, "5,1");
        Check.region(text + "clue d to c se;", 0, "");
        Check.region(text + "clue a or c or b to b e;", 0, "2,0");
        Check.answers(2, "starts ahead of it", () -> Check.loaded(text + "clue a or c or b to b e;").starts(0, 2, 0));
    }

    private static void toOneMarkOfSeveral() {
        Check.sentence("it makes paces until it stands on a mark");
        String text = "walk 8 1;mark a 0 0;mark b 3 0;mark c 7 0;mark d 7 0;";
        Check.region(text + "clue a to c e;", 0, "7,0");
        Check.region(text + "clue b to d e;", 0, "7,0");
        Check.region(text + "clue c to d e;", 0, "7,0");
        TreasureWalk walk = Check.loaded(text + "clue a to c e;clue c to d e;clue a to b e;");
        Check.answers(7, "beyond another mark", () -> walk.walk(0, 7, 0, 0));
        Check.answers(0, "another mark of the same cell", () -> walk.walk(1, 7, 0, 0));
        Check.answers(3, "the first mark", () -> walk.walk(2, 3, 0, 0));
        Check.none("it goes no farther", () -> walk.walk(2, 7, 0, 0));
    }

    private static void endAtOnce() {
        Check.sentence("- end: it makes paces until the next one cannot be made");
        for (String bearing : BEARINGS) {
            Check.region("walk 1 1;mark a 0 0;clue a end " + bearing + ";", 0, "0,0");
        }
        TreasureWalk walk = Check.loaded("walk 6 2;water 3 0 3 0;mark a 0 0;mark b 2 0;mark c 4 0;"
                + "clue b end e;clue a or b end e;clue c end e end se end e;");
        Check.answers(0, "no pace to water", () -> walk.walk(0, 2, 0, 0));
        Check.answers(2, "two paces to water", () -> walk.walk(1, 2, 0, 0));
        Check.answers(1, "one pace to the rim", () -> walk.walk(2, 5, 0, 0));
        Check.answers(0, "no pace off the map", () -> walk.walk(2, 5, 0, 1));
        Check.answers(0, "nor by the next leg", () -> walk.walk(2, 5, 0, 2));
        Check.region("walk 20 20;mark a 0 0;clue a end se;", 0, "19,19");
    }

    private static void endWithSixtyPaces() {
        Check.sentence("if 60 can be made, it ends nowhere.");
        String text = RING + "mark b 1 0;mark c 2 0;clue a end e;clue b end e;clue a or b or c end e;";
        Check.region(text + "water 0 16 0 16;", 0, "0,17");
        Check.region(text + "water 0 15 0 15;", 0, "");
        Check.region(text + "water 0 15 0 15;", 1, "0,16");
        Check.region(text + "water 0 14 0 14;", 0, "");
        Check.region(text + "water 0 14 0 14;", 1, "");
        Check.region(text, 2, "");
        TreasureWalk walk = Check.loaded(text + "water 0 15 0 15;");
        Check.answers(59, "59 paces", () -> walk.walk(1, 0, 16, 0));
        Check.answers(2, "the starts of 59 and 58 paces", () -> walk.starts(2, 0, 16));
        Check.answers(0, "the leg of 60 paces ends nowhere", () -> walk.reached(0, 1));
        Check.none("60 paces", () -> walk.walk(0, 0, 16, 0));
        Check.region(MILL + "clue a end e;", 0, "");
    }
}
