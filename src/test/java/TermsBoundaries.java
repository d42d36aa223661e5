import java.util.List;
import java.util.TreeSet;

/** The boundary cases of the document's terms: map, marks, bends, clues and what is left. */
final class TermsBoundaries {
    private static final int[] STEP_X = {0, 1, 1, 1, 0, -1, -1, -1};
    private static final int[] STEP_Y = {-1, -1, 0, 1, 1, 1, 0, -1};

    private TermsBoundaries() {
    }

    static void run() {
        sidesOfTheMap();
        numbersOfCells();
        orderOfCells();
        bearings();
        pacesAtTheRim();
        pacesToLand();
        marks();
        numbersOfBends();
        areasOfBends();
        turnsModuloEight();
        bendsWhereOneStands();
        numbersOfClues();
        startsOfClues();
        legsOfClues();
        fourCluesOfEightLegs();
        regions();
        candidates();
        cellsLeft();
        partsByNeighbours();
        teamOnLand();
        chest();
    }

    private static void sidesOfTheMap() {
        Check.sentence("The map has a width (1 to 20) and a height (1 to 20)");
        int[] sides = {1, 2, 19, 20};
        for (int width : sides) {
            for (int height : sides) {
                String text = "walk " + width + " " + height + ";";
                TreasureWalk walk = Check.loaded(text);
                int land = width * height;
                Check.states(text, walk, width, height, 0, 0, 0, 0, land, land, 0, 1, 0, 0, 0);
            }
        }
        for (int side : new int[] {0, 21, 22, 100, 256}) {
            Check.bad(-3, 5, "walk " + side + " 1;");
            Check.bad(-3, 5, "walk " + side + " 20;");
            Check.bad(-3, 7, "walk 1 " + side + ";");
            Check.bad(-3, 8, "walk 20 " + side + ";");
        }
    }

    private static void numbersOfCells() {
        Check.sentence("a cell has an x from 0 (to the east) and a y from 0 (to the south); "
                + "its number is y * width + x.");
        int[][] sizes = {{1, 1}, {7, 3}, {3, 7}, {20, 1}, {1, 20}, {20, 20}};
        for (int[] size : sizes) {
            int width = size[0];
            int height = size[1];
            TreasureWalk walk = Check.loaded("walk " + width + " " + height + ";");
            for (int corner = 0; corner < 4; corner++) {
                int x = corner % 2 * (width - 1);
                int y = corner / 2 * (height - 1);
                walk.moveTo(x, y);
                Check.answers(y * width + x, "the number of " + x + "," + y + " of width " + width,
                        () -> walk.state(10));
            }
            Check.answers(width > 1 ? 1 : -1, "a pace to the east", () -> walk.pace(0, 0, 2));
            Check.answers(height > 1 ? width : -1, "a pace to the south", () -> walk.pace(0, 0, 4));
            Check.outside("x before the first", () -> walk.cell(-1, 0));
            Check.outside("x behind the last", () -> walk.cell(width, 0));
            Check.outside("y before the first", () -> walk.cell(0, -1));
            Check.outside("y behind the last", () -> walk.cell(0, height));
            Check.answers(3, "the last cell", () -> walk.cell(width - 1, height - 1));
        }
    }

    /** The end of a row is ahead of the beginning of the next one, though its x is greater. */
    private static void orderOfCells() {
        Check.sentence("Cells are in order by their numbers.");
        TreasureWalk walk = Check.loaded("walk 19 2;mark a 0 1;mark b 18 0;team 9 0;clue a or b;");
        Check.answers(18, "the first of two that are equally near", () -> walk.nearest());
        Check.answers(2, "hide(0)", () -> walk.hide(0));
        walk.moveTo(18, 0);
        Check.answers(2, "the chest is on the first cell", () -> walk.dig());
        walk.undo();
        walk.hide(1);
        Check.answers(1, "the chest is not on the first cell", () -> walk.dig());
        walk.moveTo(0, 1);
        Check.answers(2, "the chest is on the second cell", () -> walk.dig());
        Check.answers(18, "the first cell of land", () -> Check.loaded("walk 19 2;water 0 0 17 1;").state(10));
    }

    private static void bearings() {
        Check.sentence("There are 8 bearings, numbered from 0: north, northeast, east, southeast, south, "
                + "southwest, west, northwest.");
        TreasureWalk walk = Check.loaded("walk 3 3;");
        int[] due = {1, 2, 5, 8, 7, 6, 3, 0};
        for (int i = 0; i < 8; i++) {
            int bearing = i;
            Check.answers(due[i], "pace by " + i, () -> walk.pace(1, 1, bearing));
        }
        for (int wrong : new int[] {-1, 8, -8, 9, 16, 256, Integer.MIN_VALUE, Integer.MAX_VALUE}) {
            Check.illegal("pace by " + wrong, () -> walk.pace(1, 1, wrong));
        }
        String[] names = {"n", "ne", "e", "se", "s", "sw", "w", "nw"};
        String[] ends = {"1,0", "2,0", "2,1", "2,2", "1,2", "0,2", "0,1", "0,0"};
        for (int i = 0; i < 8; i++) {
            Check.region("walk 3 3;mark a 1 1;clue a go 1 " + names[i] + ";", 0, ends[i]);
            Check.region("walk 3 3;mark a 1 1;clue a end " + names[i] + ";", 0, ends[i]);
        }
    }

    private static void pacesAtTheRim() {
        Check.sentence("One pace leads from a cell to one of its 8 neighbours; it can be made if that is on the map");
        int[][] sizes = {{1, 1}, {2, 2}, {1, 20}, {20, 1}, {5, 4}, {19, 20}, {20, 20}};
        for (int[] size : sizes) {
            TreasureWalk walk = Check.loaded("walk " + size[0] + " " + size[1] + ";");
            for (int corner = 0; corner < 16; corner++) {
                int x = fromBothEnds(corner % 4, size[0]);
                int y = fromBothEnds(corner / 4, size[1]);
                if (x >= 0 && x < size[0] && y >= 0 && y < size[1]) {
                    pacesFrom(walk, x, y, size[0], size[1]);
                }
            }
        }
    }

    /** 0 and 1 from the beginning of a side, 2 and 3 from its end. */
    private static int fromBothEnds(int place, int side) {
        return place < 2 ? place : side - 4 + place;
    }

    private static void pacesFrom(TreasureWalk walk, int x, int y, int width, int height) {
        for (int i = 0; i < 8; i++) {
            int bearing = i;
            int toX = x + STEP_X[i];
            int toY = y + STEP_Y[i];
            boolean isOnMap = toX >= 0 && toX < width && toY >= 0 && toY < height;
            Check.answers(isOnMap ? toY * width + toX : -1, width + " by " + height + ": pace from " + x + ","
                    + y + " by " + i, () -> walk.pace(x, y, bearing));
        }
    }

    private static void pacesToLand() {
        Check.sentence("it can be made if that is on the map, and land.");
        int[] ring = {1, 2, 5, 8, 7, 6, 3, 0};
        for (int open = -1; open < 8; open++) {
            StringBuilder text = new StringBuilder("walk 3 3;");
            for (int i = 0; i < 8; i++) {
                if (i != open) {
                    String cell = ring[i] % 3 + " " + ring[i] / 3;
                    text.append("water ").append(cell).append(" ").append(cell).append(";");
                }
            }
            TreasureWalk walk = Check.loaded(text.toString());
            for (int i = 0; i < 8; i++) {
                int bearing = i;
                Check.answers(i == open ? ring[i] : -1, text + " pace by " + i, () -> walk.pace(1, 1, bearing));
            }
        }
    }

    private static void marks() {
        Check.sentence("There are at most 8 marks, told by the letters a to h, each on a cell of land.");
        Check.answers(0, "no mark", () -> Check.loaded("walk 1 1;").state(2));
        StringBuilder text = new StringBuilder("walk 4 2;");
        for (int i = 0; i < 8; i++) {
            text.append("mark ").append((char) ('a' + i)).append(' ').append(i % 4).append(' ').append(i / 4)
                    .append(';');
            int count = i + 1;
            Check.answers(count, count + " marks", () -> Check.loaded(text.toString()).state(2));
        }
        for (char letter = 'a'; letter <= 'z'; letter++) {
            Check.bad(letter <= 'h' ? -4 : -2, text.length() + 5, text + "mark " + letter + " 0 0;");
        }
        Check.bad(-2, 14, "walk 1 1;mark ` 0 0;");
        Check.bad(-2, 14, "walk 1 1;mark A 0 0;");
        Check.answers(8, "eight marks on one cell", () -> Check.loaded("walk 1 1;mark a 0 0;mark b 0 0;"
                + "mark c 0 0;mark d 0 0;mark e 0 0;mark f 0 0;mark g 0 0;mark h 0 0;").state(2));
        Check.badAt(-7, "1 0;", "walk 2 1;water 1 0 1 0;mark h 1 0;");
    }

    private static void numbersOfBends() {
        Check.sentence("There are at most 8 bends, with indexes from 0: "
                + "each has a rectangle of cells and a turn (-3 to 3).");
        StringBuilder text = new StringBuilder("walk 2 2;");
        int[] turns = {-3, 3, -1, 1, -2, 2, 3, -3};
        for (int i = 0; i <= 8; i++) {
            TreasureWalk walk = Check.loaded(text.toString());
            int count = i;
            Check.answers(count, "bends", () -> walk.state(3));
            Check.outside("turn(-1, 0) of " + i + " bends", () -> walk.turn(-1, 0));
            Check.outside("turn(" + i + ", 0) of as many bends", () -> walk.turn(count, 0));
            for (int bend = 0; bend < i; bend++) {
                int index = bend;
                Check.answers(turns[bend], "turn(" + bend + ", 0)", () -> walk.turn(index, 0));
            }
            if (i < 8) {
                text.append("bend 0 0 1 1 ").append(turns[i] < 0 ? "left " : "right ").append(Math.abs(turns[i]))
                        .append(';');
            }
        }
        Check.bad(-6, text.length(), text + "bend 0 0 1 1 left 1;");
    }

    private static void areasOfBends() {
        Check.sentence("each has a rectangle of cells");
        int[][] areas = {{1, 1, 3, 2}, {0, 0, 0, 0}, {4, 3, 4, 3}, {0, 0, 4, 3}, {2, 0, 2, 3}, {0, 3, 4, 3}};
        for (int[] area : areas) {
            TreasureWalk walk = Check.loaded("walk 5 4;bend " + area[0] + " " + area[1] + " " + area[2] + " "
                    + area[3] + " right 2;");
            for (int cell = 0; cell < 20; cell++) {
                int x = cell % 5;
                int y = cell / 5;
                boolean isIn = x >= area[0] && x <= area[2] && y >= area[1] && y <= area[3];
                int east = x < 4 ? cell + 1 : -1;
                int south = y < 3 ? cell + 5 : -1;
                Check.answers(isIn ? south : east, "pace from " + x + "," + y, () -> walk.pace(x, y, 2));
            }
        }
    }

    /** Eight bends on a cell, with all sums of their turns. */
    private static void turnsModuloEight() {
        Check.sentence("Who makes a pace by a bearing makes it by the bearing plus the turns of all bends in whose "
                + "rectangles the cell lies on which one stands, modulo 8 (0 to 7)");
        StringBuilder text = new StringBuilder("walk 3 3;");
        for (int i = 0; i < 8; i++) {
            text.append("bend 1 1 1 1 left 3;");
        }
        TreasureWalk walk = Check.loaded(text.toString());
        int[] ring = {1, 2, 5, 8, 7, 6, 3, 0};
        for (int sum = -24; sum <= 24; sum++) {
            for (int i = 0; i < 8; i++) {
                int bearing = i;
                Check.answers(ring[Math.floorMod(i + sum, 8)], "pace by " + i + " with turns of " + sum,
                        () -> walk.pace(1, 1, bearing));
            }
            int bend = (sum + 24) / 6;
            if (sum < 24) {
                walk.turn(bend, (sum + 24) % 6 - 2);
            }
        }
        Check.region("walk 3 3;mark a 1 1;bend 1 1 1 1 left 3;clue a go 1 n;", 0, "0,2");
        Check.region("walk 3 3;mark a 1 1;bend 1 1 1 1 right 3;clue a go 1 nw;", 0, "2,1");
    }

    private static void bendsWhereOneStands() {
        Check.sentence("in whose rectangles the cell lies on which one stands");
        TreasureWalk walk = Check.loaded("walk 4 3;bend 1 0 1 2 right 2;mark a 0 1;clue a go 3 e give 3;");
        Check.answers(5, "onto the bend", () -> walk.pace(0, 1, 2));
        Check.answers(9, "from the bend", () -> walk.pace(1, 1, 2));
        Check.answers(7, "behind the bend", () -> walk.pace(2, 1, 2));
        Check.region(walk, 0, "0,1 1,1 1,2");
        TreasureWalk wet = Check.loaded("walk 4 3;water 1 1 1 1;bend 1 1 1 1 right 2;");
        Check.answers(9, "a bend on water", () -> wet.pace(1, 1, 2));
    }

    private static void numbersOfClues() {
        Check.sentence("There are at most 4 clues, with indexes from 0.");
        StringBuilder text = new StringBuilder("walk 4 1;mark a 0 0;");
        for (int i = 0; i <= 4; i++) {
            int count = i;
            Check.good(i, text.toString());
            TreasureWalk walk = Check.loaded(text.toString());
            Check.answers(count, "clues", () -> walk.state(4));
            Check.outside("ends(-1, ..) of " + i + " clues", () -> walk.ends(-1, 0, 0));
            Check.outside("ends(" + i + ", ..) of as many clues", () -> walk.ends(count, 0, 0));
            for (int clue = 0; clue < i; clue++) {
                int index = clue;
                Check.answers(true, "ends of clue " + clue, () -> walk.ends(index, index, 0));
                Check.answers(1, "reached by clue " + clue, () -> walk.reached(index, 1));
            }
            if (i < 4) {
                text.append("clue a go ").append(i).append(" e;");
            }
        }
        Check.bad(-6, text.length(), text + "clue a;");
    }

    private static void startsOfClues() {
        Check.sentence("A clue has starts (one or more marks, in the order in which they are told)");
        String text = "walk 20 1;mark a 0 0;mark b 1 0;mark c 2 0;mark d 3 0;mark e 4 0;mark f 5 0;mark g 6 0;"
                + "mark h 7 0;";
        Check.badAt(-2, ";", text + "clue;");
        Check.badAt(-2, "go", text + "clue go 1 e;");
        TreasureWalk walk = Check.loaded(text + "clue h;clue h or g or f or e or d or c or b or a go 7 e give 5;"
                + "clue a or b or c or d or e or f or g or h go 7 e give 5;");
        Check.answers(1, "one start", () -> walk.reached(0, 0));
        Check.answers(8, "eight starts", () -> walk.reached(1, 0));
        Check.answers(8, "all of them lead there", () -> walk.starts(1, 9, 0));
        Check.answers(2, "the first start told is the last mark", () -> walk.walk(1, 9, 0, 0));
        Check.answers(9, "the first start told is the first mark", () -> walk.walk(2, 9, 0, 0));
        Check.badAt(-4, "a;", text + "clue a or b or c or d or e or f or g or h or a;");
    }

    private static void legsOfClues() {
        Check.sentence("and at most 8 legs, with indexes from 0.");
        StringBuilder text = new StringBuilder("walk 20 1;mark a 0 0;clue a");
        for (int i = 0; i <= 8; i++) {
            TreasureWalk walk = Check.loaded(text + ";");
            int legs = i;
            Check.answers(1, "reached(0, " + i + ") of as many legs", () -> walk.reached(0, legs));
            Check.illegal("one more leg", () -> walk.reached(0, legs + 1));
            int end = Math.min(15, i * (i + 1) / 2);
            for (int leg = 0; leg < i; leg++) {
                int index = leg;
                Check.answers(leg < 5 ? leg + 1 : 0, "walk of leg " + leg, () -> walk.walk(0, end, 0, index));
            }
            Check.outside("walk of no leg", () -> walk.walk(0, 0, 0, legs));
            Check.outside("walk of leg -1", () -> walk.walk(0, 0, 0, -1));
            text.append(i < 5 ? " go " + (i + 1) + " e" : " go 0 e");
        }
        Check.badAt(-6, "go", text + ";");
    }

    /** Every clue and every leg that there can be, on land without bends. */
    private static void fourCluesOfEightLegs() {
        Check.sentence("There are at most 4 clues, with indexes from 0.");
        Check.sentence("and at most 8 legs, with indexes from 0.");
        StringBuilder text = new StringBuilder("walk 9 9;mark a 0 0;mark b 5 1;");
        for (int clue = 0; clue < 4; clue++) {
            text.append(clue % 2 == 0 ? "clue a" : "clue b or a");
            for (int leg = 0; leg < 8; leg++) {
                text.append(" go ").append(paces(clue, leg)).append(isEast(clue, leg) ? " e" : " s");
                text.append(leg % 4 == clue ? " give 1" : "");
            }
            text.append(';');
        }
        TreasureWalk walk = Check.loaded(text.toString());
        for (int i = 0; i < 4; i++) {
            int clue = i;
            TreeSet<Integer> cells = new TreeSet<>(clue % 2 == 0 ? List.of(0) : List.of(0, 14));
            for (int j = 0; j <= 8; j++) {
                int legs = j;
                int due = cells.size();
                Check.answers(due, "reached(" + clue + ", " + legs + ")", () -> walk.reached(clue, legs));
                cells = j < 8 ? behind(cells, clue, j) : cells;
            }
            StringBuilder region = new StringBuilder();
            for (int cell : cells) {
                region.append(region.length() == 0 ? "" : " ").append(cell % 9).append(',').append(cell / 9);
            }
            Check.region(walk, clue, region.toString());
        }
    }

    private static int paces(int clue, int leg) {
        return (clue + leg) % 3 == 0 ? 2 : leg % 2;
    }

    private static boolean isEast(int clue, int leg) {
        return (clue * 3 + leg) % 5 < 2;
    }

    private static TreeSet<Integer> behind(TreeSet<Integer> cells, int clue, int leg) {
        TreeSet<Integer> ends = new TreeSet<>();
        int give = leg % 4 == clue ? 1 : 0;
        for (int cell : cells) {
            for (int n = Math.max(0, paces(clue, leg) - give); n <= paces(clue, leg) + give; n++) {
                int x = cell % 9 + (isEast(clue, leg) ? n : 0);
                int y = cell / 9 + (isEast(clue, leg) ? 0 : n);
                if (x < 9 && y < 9) {
                    ends.add(y * 9 + x);
                }
            }
        }
        return ends;
    }

    private static void regions() {
        Check.sentence("The region of a clue is the set of the cells at which its last leg can end, if the first one "
                + "begins on one of its starts, and each other one where the one ahead of it can end "
                + "(the starts, if it has no legs).");
        String marks = "walk 6 2;mark a 0 0;mark b 5 1;mark c 2 0;";
        Check.region(marks + "clue a;", 0, "0,0");
        Check.region(marks + "clue c or b or a;", 0, "0,0 2,0 5,1");
        Check.region(marks + "clue a or b go 1 w;", 0, "4,1");
        Check.region(marks + "clue a or c go 1 e go 1 s go 1 ne give 1;", 0, "2,0 4,0 1,1 3,1");
        Check.region(marks + "clue a to b e go 0 n end w;", 0, "");
        TreasureWalk walk = Check.loaded(marks + "clue a go 1 e to b e go 0 n;");
        int[] due = {1, 1, 0, 0};
        for (int i = 0; i < due.length; i++) {
            int legs = i;
            Check.answers(due[i], "behind a leg that ends nowhere: reached(0, " + i + ")",
                    () -> walk.reached(0, legs));
        }
    }

    private static void candidates() {
        Check.sentence("The candidates are the cells of land that are in the regions of all clues that are in use "
                + "(all cells of land, if none is).");
        TreasureWalk none = Check.loaded("walk 4 3;water 0 0 1 1;");
        Check.answers(8, "no clue", () -> none.state(6));
        TreasureWalk walk = Check.loaded("walk 9 1;water 8 0 8 0;mark a 0 0;clue a go 5 e give 5;clue a go 5 e give 4;"
                + "clue a go 5 e give 3;clue a go 4 e give 2;");
        int[] due = {8, 8, 7, 7, 6, 6, 6, 6, 5, 5, 5, 5, 5, 5, 5, 5};
        for (int used = 0; used < 16; used++) {
            for (int clue = 0; clue < 4; clue++) {
                walk.use(clue, (used >> clue & 1) == 1);
            }
            Check.answers(due[used], "candidates with clues " + used, () -> walk.state(6));
        }
        TreasureWalk apart = Check.loaded("walk 4 1;mark a 0 0;mark b 1 0;clue a;clue b;");
        Check.answers(0, "two regions without a common cell", () -> apart.state(6));
    }

    private static void cellsLeft() {
        Check.sentence("The candidates that are not dug are left.");
        TreasureWalk walk = Check.loaded("walk 3 1;mark a 0 0;mark b 1 0;clue a or b;");
        Check.answers(2, "no candidate is dug", () -> walk.state(7));
        walk.dig();
        Check.answers(1, "one is dug", () -> walk.state(7));
        walk.moveTo(2, 0);
        walk.dig();
        Check.answers(1, "and one that is no candidate", () -> walk.state(7));
        walk.moveTo(1, 0);
        walk.dig();
        Check.answers(0, "all are dug", () -> walk.state(7));
        Check.answers(2, "they are candidates still", () -> walk.state(6));
        walk.use(0, false);
        Check.answers(0, "all cells of land are dug", () -> walk.state(7));
    }

    private static void partsByNeighbours() {
        Check.sentence("Two cells that are left are of the same part if one can get from one to the other by "
                + "neighbours that are left.");
        parts(1, "walk 20 2;mark a 19 0;mark b 18 1;clue a or b;");
        parts(2, "walk 20 3;mark a 19 0;mark b 0 1;clue a or b;");
        parts(2, "walk 2 3;mark a 0 0;mark b 0 2;clue a or b;");
        parts(2, "walk 3 1;mark a 0 0;mark b 2 0;clue a or b;");
        parts(1, "walk 2 2;mark a 0 0;mark b 1 1;clue a or b;");
        parts(1, "walk 2 2;mark a 1 0;mark b 0 1;clue a or b;");
        parts(1, "walk 1 2;mark a 0 0;mark b 0 1;clue a or b;");
        parts(8, "walk 15 1;mark a 0 0;mark b 2 0;mark c 4 0;mark d 6 0;mark e 8 0;mark f 10 0;mark g 12 0;"
                + "mark h 14 0;clue a or b or c or d or e or f or g or h;");
        parts(1, "walk 20 20;");
        parts(10, "walk 20 1;water 1 0 1 0;water 3 0 3 0;water 5 0 5 0;water 7 0 7 0;water 9 0 9 0;"
                + "water 11 0 11 0;water 13 0 13 0;water 15 0 15 0;water 17 0 17 0;water 19 0 19 0;");
        parts(0, "walk 2 1;mark a 0 0;mark b 1 0;clue a;clue b;");
    }

    private static void parts(int due, String text) {
        Check.answers(due, text + " parts", () -> Check.loaded(text).state(9));
    }

    private static void teamOnLand() {
        Check.sentence("The team stands on a cell of land.");
        TreasureWalk walk = Check.loaded("walk 3 2;water 0 0 2 0;water 0 1 1 1;");
        Check.answers(5, "the only cell of land", () -> walk.state(10));
        Check.answers(-1, "no way onto water", () -> walk.moveTo(1, 1));
        Check.answers(5, "the team is where it was", () -> walk.state(10));
        Check.bad(-7, 28, "walk 3 2;water 0 0 2 0;team 2 0;");
    }

    private static void chest() {
        Check.sentence("There is no chest, or it is hidden on a cell, or it was found.");
        TreasureWalk walk = Check.loaded("walk 2 1;");
        Check.answers(0, "no chest", () -> walk.state(12));
        walk.hide(0);
        Check.answers(1, "a hidden chest", () -> walk.state(12));
        walk.dig();
        Check.answers(2, "a chest that was found", () -> walk.state(12));
        walk.moveTo(1, 0);
        walk.dig();
        Check.answers(2, "it was found still", () -> walk.state(12));
        walk.hide(0);
        Check.answers(0, "no chest again", () -> walk.state(12));
    }
}
