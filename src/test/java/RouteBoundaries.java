/** The boundary cases of promises 13 to 18: distances, nearest, tour, part, meanDistance, chestIsLeft. */
final class RouteBoundaries {
    /** A path of 210 cells of land from (0, 0) to (0, 19), along which one must walk. */
    private static final String SNAKE = "walk 20 20;water 0 1 18 1;water 1 3 19 3;water 0 5 18 5;water 1 7 19 7;"
            + "water 0 9 18 9;water 1 11 19 11;water 0 13 18 13;water 1 15 19 15;water 0 17 18 17;water 1 19 19 19;";

    private RouteBoundaries() {
    }

    static void run() {
        distances();
        distancesToNoCell();
        nearestCells();
        tours();
        toursFromZeroToNineStops();
        toursThatAreNone();
        toursInAnyOrder();
        parts();
        partsOfNoCell();
        means();
        chests();
    }

    private static void distances() {
        Check.sentence("Returns the fewest paces by which the team can come to the cell, whatever the bends are; "
                + "-1 if it cannot.");
        TreasureWalk open = Check.loaded("walk 20 20;bend 0 0 19 19 left 3;bend 0 0 19 19 right 2;team 7 9;");
        for (int cell = 0; cell < 400; cell++) {
            int x = cell % 20;
            int y = cell / 20;
            Check.answers(Math.max(Math.abs(x - 7), Math.abs(y - 9)), "distance(" + x + ", " + y + ")",
                    () -> open.distance(x, y));
        }
        TreasureWalk snake = Check.loaded(SNAKE);
        Check.answers(0, "to where the team is", () -> snake.distance(0, 0));
        Check.answers(18, "along the first row", () -> snake.distance(18, 0));
        Check.answers(190, "to the end of the snake", () -> snake.distance(0, 19));
        Check.answers(-1, "to water", () -> snake.distance(0, 1));
        snake.moveTo(0, 19);
        Check.answers(190, "back", () -> snake.distance(0, 0));
        TreasureWalk apart = Check.loaded("walk 5 3;water 2 0 2 2;water 1 0 1 0;");
        Check.answers(-1, "beyond water", () -> apart.distance(3, 1));
        Check.answers(1, "askew", () -> apart.distance(1, 1));
        Check.answers(2, "round water", () -> apart.distance(1, 2));
        Check.answers(0, "one cell", () -> new TreasureWalk().distance(0, 0));
    }

    private static void distancesToNoCell() {
        Check.sentence("Throws `IndexOutOfBoundsException` if there is no such cell");
        TreasureWalk walk = Check.loaded("walk 3 2;");
        int[][] wrongs = {{3, 0}, {-1, 1}, {0, 2}, {2, -1}};
        for (int[] wrong : wrongs) {
            Check.outside("distance", () -> walk.distance(wrong[0], wrong[1]));
            Check.outside("moveTo", () -> walk.moveTo(wrong[0], wrong[1]));
            Check.outside("part", () -> walk.part(wrong[0], wrong[1]));
        }
        Check.answers(2, "distance(2, 1)", () -> walk.distance(2, 1));
    }

    private static void nearestCells() {
        Check.sentence("Returns the cell that is left and to which the team can come by the fewest paces, "
                + "of several the first one; -1 if there is none.");
        TreasureWalk ring = Check.loaded("walk 5 5;team 2 2;");
        int[] due = {12, 6, 7, 8, 11, 13, 16, 17, 18, 0, 1, 2, 3, 4, 5, 9, 10, 14, 15, 19, 20, 21, 22, 23, 24, -1};
        for (int cell : due) {
            Check.answers(cell, "nearest of those that are not dug", () -> ring.nearest());
            if (cell >= 0) {
                ring.moveTo(cell % 5, cell / 5);
                ring.dig();
                ring.moveTo(2, 2);
            }
        }
        TreasureWalk far = Check.loaded(SNAKE + "mark a 0 19;mark b 0 18;clue a or b;clue a;");
        Check.answers(380, "the end of the snake alone", () -> far.nearest());
        far.use(1, false);
        Check.answers(360, "the cell ahead of it", () -> far.nearest());
        TreasureWalk apart = Check.loaded("walk 5 1;water 1 0 1 0;mark a 2 0;mark b 0 0;clue a;clue a or b;");
        Check.answers(-1, "none to which it can come", () -> apart.nearest());
        apart.use(0, false);
        Check.answers(0, "where the team is", () -> apart.nearest());
        apart.dig();
        Check.answers(-1, "it is dug", () -> apart.nearest());
        Check.answers(-1, "no candidate",
                () -> Check.loaded("walk 2 1;mark a 0 0;mark b 1 0;clue a;clue b;").nearest());
    }

    private static void tours() {
        Check.sentence("Returns the fewest paces by which the team can come to all cells that are left, one after the "
                + "other in any order; 0 if none is left, -1 if it cannot come to one of them");
        TreasureWalk walk = Check.loaded("walk 9 1;team 4 0;mark a 0 0;mark b 7 0;clue a or b;clue a;clue b;");
        walk.use(1, false);
        walk.use(2, false);
        Check.answers(10, "the nearer end first", () -> walk.tour());
        walk.moveTo(3, 0);
        Check.answers(10, "the other end first", () -> walk.tour());
        walk.use(2, true);
        Check.answers(4, "one stop", () -> walk.tour());
        walk.moveTo(7, 0);
        Check.answers(0, "where the team is", () -> walk.tour());
        walk.use(1, true);
        Check.answers(0, "none is left", () -> walk.tour());
        Check.answers(0, "a new object", () -> new TreasureWalk().tour());
        Check.answers(19 + 190, "back to the head of a snake, then to its tail", () -> Check.loaded(SNAKE
                + "mark a 0 0;mark b 0 19;mark c 10 10;team 19 1;clue a or b or c;").tour());
    }

    /** Cells 0 to 9 of a row, of which more and more are dug. */
    private static void toursFromZeroToNineStops() {
        Check.sentence("-2 (ahead of -1) if more than 9 are left.");
        TreasureWalk walk = Check.loaded("walk 20 1;mark a 0 0;team 19 0;clue a go 5 e give 5;");
        Check.answers(-2, "eleven cells", () -> walk.tour());
        walk.moveTo(10, 0);
        walk.dig();
        Check.answers(-2, "ten cells", () -> walk.tour());
        for (int count = 9; count >= 0; count--) {
            walk.moveTo(count, 0);
            walk.dig();
            walk.moveTo(19, 0);
            Check.answers(count == 0 ? 0 : 19, count + " cells", () -> walk.tour());
            walk.moveTo(0, 0);
            Check.answers(Math.max(0, count - 1), count + " cells from their first one", () -> walk.tour());
        }
        TreasureWalk parted = Check.loaded("walk 20 1;water 11 0 11 0;team 12 0;mark a 0 0;clue a go 5 e give 5;"
                + "clue a go 5 e give 4;clue a go 4 e give 4;");
        parted.use(1, false);
        parted.use(2, false);
        Check.answers(-2, "eleven cells to none of which it can come", () -> parted.tour());
        parted.use(2, true);
        Check.answers(-1, "nine cells to none of which it can come", () -> parted.tour());
        parted.use(2, false);
        parted.use(1, true);
        Check.answers(-1, "nine other cells", () -> parted.tour());
        TreasureWalk ten = Check.loaded("walk 10 1;");
        Check.answers(-2, "ten cells of land", () -> ten.tour());
        ten.dig();
        Check.answers(9, "nine of them", () -> ten.tour());
        Check.answers(8, "nine cells of land", () -> Check.loaded("walk 3 3;").tour());
        Check.answers(-2, "all cells", () -> Check.loaded("walk 20 20;").tour());
    }

    private static void toursThatAreNone() {
        Check.sentence("-1 if it cannot come to one of them");
        TreasureWalk walk = Check.loaded("walk 11 1;water 5 0 5 0;mark a 0 0;mark b 10 0;mark c 6 0;"
                + "clue a or b;clue a or c;clue a or c or b go 1 e give 1;");
        walk.use(1, false);
        walk.use(2, false);
        Check.answers(-1, "the last one cannot be reached", () -> walk.tour());
        walk.use(0, false);
        walk.use(1, true);
        Check.answers(-1, "the other one cannot be reached", () -> walk.tour());
        walk.use(0, true);
        Check.answers(0, "the one that is left can be reached", () -> walk.tour());
        TreasureWalk first = Check.loaded("walk 11 1;water 5 0 5 0;mark a 0 0;mark b 10 0;team 9 0;clue a or b;");
        Check.answers(-1, "the first one cannot be reached", () -> first.tour());
    }

    /** Eight stops on open land, where distances are the greater of both differences. */
    private static void toursInAnyOrder() {
        Check.sentence("Returns the fewest paces by which the team can come to all cells that are left, one after the "
                + "other in any order");
        int[][] stops = {{3, 17}, {18, 2}, {0, 0}, {9, 10}, {19, 19}, {12, 4}, {1, 8}, {15, 13}};
        StringBuilder text = new StringBuilder("walk 20 20;team 10 2;");
        StringBuilder clue = new StringBuilder("clue a");
        for (int i = 0; i < stops.length; i++) {
            text.append("mark ").append((char) ('a' + i)).append(' ').append(stops[i][0]).append(' ')
                    .append(stops[i][1]).append(';');
            clue.append(i == 0 ? "" : " or " + (char) ('a' + i));
        }
        int due = fewest(stops, new boolean[stops.length], 10, 2);
        Check.answers(due, "eight stops", () -> Check.loaded(text.toString() + clue + ";").tour());
        int[][] nine = {{3, 17}, {4, 17}, {17, 2}, {18, 2}, {0, 0}, {1, 0}, {9, 10}, {10, 10}, {19, 19}};
        Check.answers(fewest(nine, new boolean[nine.length], 10, 2), "nine stops", () -> Check.loaded("walk 20 20;"
                + "team 10 2;mark e 3 17;mark d 17 2;mark c 0 0;mark b 9 10;mark a 19 19;"
                + "clue a or b or c or d or e go 0 e give 1;").tour());
    }

    private static int fewest(int[][] stops, boolean[] isDone, int x, int y) {
        int fewest = Integer.MAX_VALUE;
        for (int i = 0; i < stops.length; i++) {
            if (!isDone[i]) {
                isDone[i] = true;
                int hop = Math.max(Math.abs(stops[i][0] - x), Math.abs(stops[i][1] - y));
                fewest = Math.min(fewest, hop + fewest(stops, isDone, stops[i][0], stops[i][1]));
                isDone[i] = false;
            }
        }
        return fewest == Integer.MAX_VALUE ? 0 : fewest;
    }

    private static void parts() {
        Check.sentence("Returns the number of cells of the part of the cell; 0 if it is not left.");
        TreasureWalk all = Check.loaded("walk 20 20;");
        Check.answers(400, "the whole map", () -> all.part(19, 0));
        all.dig();
        Check.answers(0, "dug", () -> all.part(0, 0));
        Check.answers(399, "all but the dug one", () -> all.part(1, 1));
        TreasureWalk snake = Check.loaded(SNAKE);
        Check.answers(210, "a snake", () -> snake.part(0, 19));
        Check.answers(0, "water", () -> snake.part(1, 19));
        TreasureWalk walk = Check.loaded("walk 5 2;mark a 4 0;mark b 0 1;mark c 3 1;mark d 1 0;clue a or b or c or d;"
                + "clue a;");
        walk.use(1, false);
        Check.answers(2, "askew to the southwest", () -> walk.part(4, 0));
        Check.answers(2, "askew to the southeast", () -> walk.part(0, 1));
        Check.answers(0, "no candidate", () -> walk.part(2, 0));
        walk.use(1, true);
        Check.answers(1, "one alone", () -> walk.part(4, 0));
        Check.answers(0, "no candidate any more", () -> walk.part(0, 1));
        Check.answers(1, "a new object", () -> new TreasureWalk().part(0, 0));
    }

    private static void partsOfNoCell() {
        Check.sentence("Throws `IndexOutOfBoundsException` if there is no such cell");
        TreasureWalk walk = Check.loaded("walk 3 2;mark a 0 0;clue a;");
        Check.outside("part(3, 0)", () -> walk.part(3, 0));
        Check.outside("part(0, 2)", () -> walk.part(0, 2));
        Check.answers(0, "part(2, 1)", () -> walk.part(2, 1));
    }

    private static void means() {
        Check.sentence("Returns the sum of the distances of the cells that are left and to which the team can come, "
                + "and their number, both converted to double and divided; 0.0 if there are none.");
        Check.answers(0.0, "where the team is", () -> new TreasureWalk().meanDistance());
        TreasureWalk walk = Check.loaded("walk 8 1;water 6 0 6 0;mark a 0 0;mark b 1 0;mark c 4 0;mark d 7 0;"
                + "clue a or b or c;clue a or b;clue d;clue d or c or b;");
        walk.use(1, false);
        walk.use(2, false);
        walk.use(3, false);
        Check.answers(5.0 / 3.0, "three cells", () -> walk.meanDistance());
        walk.use(1, true);
        Check.answers(0.5, "less than one", () -> walk.meanDistance());
        walk.use(0, false);
        walk.use(1, false);
        walk.use(3, true);
        Check.answers(2.5, "one of three cannot be reached", () -> walk.meanDistance());
        walk.use(2, true);
        Check.answers(0.0, "none can be reached", () -> walk.meanDistance());
        walk.use(1, true);
        Check.answers(0.0, "none is left", () -> walk.meanDistance());
        int sum = 0;
        for (int i = 1; i <= 20; i++) {
            sum += (2 * i - 1) * (i - 1);
        }
        Check.answers((double) sum / 400.0, "all cells", () -> Check.loaded("walk 20 20;").meanDistance());
        TreasureWalk dug = Check.loaded("walk 3 1;");
        dug.dig();
        Check.answers(1.5, "but the dug one", () -> dug.meanDistance());
        dug.moveTo(1, 0);
        dug.dig();
        dug.moveTo(0, 0);
        Check.answers(2.0, "one cell alone", () -> dug.meanDistance());
        dug.moveTo(2, 0);
        Check.answers(0.0, "the cell of the team alone", () -> dug.meanDistance());
    }

    private static void chests() {
        Check.sentence("Returns whether the chest is hidden on a cell that is left.");
        TreasureWalk walk = Check.loaded("walk 3 1;mark a 0 0;mark b 2 0;clue a or b;clue b;");
        Check.answers(false, "no chest", () -> walk.chestIsLeft());
        walk.hide(0);
        Check.answers(true, "a hidden chest", () -> walk.chestIsLeft());
        walk.use(1, false);
        Check.answers(true, "with other cells", () -> walk.chestIsLeft());
        walk.dig();
        Check.answers(true, "another cell is dug", () -> walk.chestIsLeft());
        walk.undo();
        walk.hide(0);
        Check.answers(true, "on the first cell", () -> walk.chestIsLeft());
        walk.use(1, true);
        Check.answers(false, "on a cell that is no candidate", () -> walk.chestIsLeft());
        walk.use(1, false);
        walk.dig();
        Check.answers(false, "found", () -> walk.chestIsLeft());
        walk.undo();
        Check.answers(true, "hidden again", () -> walk.chestIsLeft());
        TreasureWalk none = new TreasureWalk();
        none.dig();
        none.hide(0);
        Check.answers(false, "no cell for a chest", () -> none.chestIsLeft());
    }
}
