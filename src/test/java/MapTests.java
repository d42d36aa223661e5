/** Promises 5 to 7: state, cell and pace. */
public final class MapTests {
    private MapTests() {
    }

    public static void main(String[] args) {
        stateTellsAll();
        stateRange();
        cellKinds();
        cellNumbers();
        paceByEachBearing();
        paceWithBends();
        paceFromAndToWater();
        Check.finish();
    }

    /** The clue's region is the row of y 1; a wall of water parts the map. */
    private static TreasureWalk rowWalk() {
        return Check.loaded("walk 5 3;mark b 0 1;mark a 4 2;water 2 0 2 0;team 1 0;"
                + "bend 0 0 0 0 right 1;bend 0 0 0 0 right 1;clue b go 2 e give 2;clue a or b;clue a;");
    }

    private static void stateTellsAll() {
        TreasureWalk walk = rowWalk();
        walk.use(1, false);
        walk.use(2, false);
        Check.states("ahead", walk, 5, 3, 2, 2, 3, 1, 5, 5, 0, 1, 1, 0, 0);
        walk.moveTo(2, 1);
        walk.hide(7);
        walk.dig();
        Check.states("a chest found", walk, 5, 3, 2, 2, 3, 1, 5, 4, 1, 2, 7, 1, 2);
        walk.moveTo(3, 0);
        walk.dig();
        walk.hide(0);
        Check.states("a chest hidden", walk, 5, 3, 2, 2, 3, 1, 5, 4, 2, 2, 3, 2, 1);
        walk.use(0, false);
        Check.states("no clue in use", walk, 5, 3, 2, 2, 3, 0, 14, 12, 2, 1, 3, 2, 1);
        walk.use(0, true);
        walk.use(2, true);
        Check.states("no candidate", walk, 5, 3, 2, 2, 3, 2, 0, 0, 2, 0, 3, 2, 1);
        Check.load(walk, "walk 1 1;");
        Check.states("behind a load", walk, 1, 1, 0, 0, 0, 0, 1, 1, 0, 1, 0, 0, 0);
    }

    private static void stateRange() {
        TreasureWalk walk = rowWalk();
        Check.illegal("state(-1)", () -> walk.state(-1));
        Check.illegal("state(13)", () -> walk.state(13));
        Check.illegal("state(MAX)", () -> walk.state(Integer.MAX_VALUE));
        Check.illegal("state(MIN)", () -> walk.state(Integer.MIN_VALUE));
    }

    private static void cellKinds() {
        TreasureWalk walk = rowWalk();
        walk.use(1, false);
        walk.use(2, false);
        walk.dig();
        walk.moveTo(1, 1);
        walk.dig();
        Check.answers(0, "water", () -> walk.cell(2, 0));
        Check.answers(1, "no candidate", () -> walk.cell(0, 0));
        Check.answers(2, "no candidate, dug", () -> walk.cell(1, 0));
        Check.answers(3, "left", () -> walk.cell(0, 1));
        Check.answers(4, "candidate, dug", () -> walk.cell(1, 1));
        walk.use(0, false);
        Check.answers(4, "all are candidates without a clue", () -> walk.cell(1, 0));
        Check.answers(0, "water is none", () -> walk.cell(2, 0));
        walk.use(1, true);
        Check.answers(3, "a start of a clue without legs", () -> walk.cell(4, 2));
        Check.answers(2, "another cell", () -> walk.cell(1, 1));
    }

    private static void cellNumbers() {
        TreasureWalk walk = rowWalk();
        Check.outside("cell(-1, 0)", () -> walk.cell(-1, 0));
        Check.outside("cell(5, 0)", () -> walk.cell(5, 0));
        Check.outside("cell(0, -1)", () -> walk.cell(0, -1));
        Check.outside("cell(0, 3)", () -> walk.cell(0, 3));
        Check.outside("cell(MAX, MAX)", () -> walk.cell(Integer.MAX_VALUE, Integer.MAX_VALUE));
        Check.outside("cell(MIN, 0)", () -> walk.cell(Integer.MIN_VALUE, 0));
        Check.answers(1, "cell(4, 2)", () -> walk.cell(4, 2));
        TreasureWalk widest = Check.loaded("walk 20 20;water 0 0 18 19;water 19 0 19 18;");
        Check.answers(3, "the last cell of all", () -> widest.cell(19, 19));
        Check.answers(399, "its number", () -> widest.state(10));
        Check.outside("cell(20, 19)", () -> widest.cell(20, 19));
        Check.outside("cell(19, 20)", () -> widest.cell(19, 20));
    }

    private static void paceByEachBearing() {
        TreasureWalk walk = Check.loaded("walk 4 3;");
        int[] due = {1, 2, 6, 10, 9, 8, 4, 0};
        for (int i = 0; i < due.length; i++) {
            int bearing = i;
            Check.answers(due[i], "pace(1, 1, " + i + ")", () -> walk.pace(1, 1, bearing));
        }
        Check.answers(-1, "off the north edge", () -> walk.pace(1, 0, 0));
        Check.answers(-1, "off the east edge", () -> walk.pace(3, 1, 2));
        Check.answers(-1, "off the south edge", () -> walk.pace(1, 2, 4));
        Check.answers(-1, "off the west edge", () -> walk.pace(0, 1, 6));
        Check.answers(-1, "off a corner", () -> walk.pace(3, 2, 3));
        Check.answers(0, "to the first cell", () -> walk.pace(1, 1, 7));
        Check.illegal("pace by -1", () -> walk.pace(1, 1, -1));
        Check.illegal("pace by 8", () -> walk.pace(1, 1, 8));
        Check.outside("pace from no cell", () -> walk.pace(4, 1, 0));
        Check.outside("no cell is ahead of no bearing", () -> walk.pace(1, 3, 8));
        TreasureWalk widest = Check.loaded("walk 20 20;");
        Check.answers(399, "to the last cell", () -> widest.pace(18, 18, 3));
        Check.answers(-1, "off the widest map", () -> widest.pace(19, 19, 2));
    }

    private static void paceWithBends() {
        TreasureWalk walk = Check.loaded("walk 4 3;bend 1 1 2 1 right 3;bend 1 1 1 1 right 3;"
                + "bend 0 1 1 2 right 3;bend 3 0 3 2 left 3;");
        Check.answers(4, "three bends: 9 to the right from 5", () -> walk.pace(1, 1, 5));
        Check.answers(2, "three bends: 9 to the right from 0", () -> walk.pace(1, 1, 0));
        Check.answers(11, "one bend: 3 to the right", () -> walk.pace(2, 1, 0));
        Check.answers(10, "one bend: 3 to the left", () -> walk.pace(3, 1, 0));
        Check.answers(2, "no bend", () -> walk.pace(1, 0, 2));
        Check.answers(5, "the last cell of an area", () -> walk.pace(1, 2, 5));
        Check.answers(11, "a cell behind the area", () -> walk.pace(2, 2, 2));
        walk.turn(1, -2);
        Check.answers(8, "another turn: 4 to the right", () -> walk.pace(1, 1, 1));
    }

    private static void paceFromAndToWater() {
        TreasureWalk walk = Check.loaded("walk 3 1;water 1 0 2 0;");
        Check.answers(-1, "onto water", () -> walk.pace(0, 0, 2));
        Check.answers(0, "from water onto land", () -> walk.pace(1, 0, 6));
        Check.answers(-1, "from water onto water", () -> walk.pace(1, 0, 2));
    }
}
