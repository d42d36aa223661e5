/** Promises 8 to 12: reached, ends, why, walk and starts. */
public final class ClueTests {
    /** A walk east from (0, 0) runs round the map: after 57 paces it is at (0, 19), then it goes north. */
    private static final String RING = "walk 20 20;bend 19 0 19 19 right 2;bend 1 19 19 19 right 2;"
            + "bend 1 19 18 19 right 2;bend 0 1 0 19 left 2;";
    /** A walk east from (0, 0) runs round four cells for ever. */
    private static final String MILL = "walk 3 3;bend 1 0 1 0 right 2;bend 1 1 1 1 right 3;"
            + "bend 1 1 1 1 right 1;bend 0 1 0 1 left 2;mark a 0 0;mark b 0 1;mark c 2 2;";

    private ClueTests() {
    }

    public static void main(String[] args) {
        goReaches();
        goByEachBearing();
        toReaches();
        endReaches();
        sixtyPaces();
        millsHaveNoEnd();
        startsAreReached();
        reachedRange();
        regionsOfClues();
        whyTellsTheFirstClue();
        walkIsTheFirstOne();
        walkPrefersEarlyLegs();
        walkOfEightLegs();
        walkRange();
        startsAreCounted();
        startsRange();
        Check.finish();
    }

    private static void reaches(TreasureWalk walk, int clue, int... due) {
        for (int i = 0; i < due.length; i++) {
            int legs = i;
            Check.answers(due[i], "reached(" + clue + ", " + i + ")", () -> walk.reached(clue, legs));
        }
    }

    private static void goReaches() {
        TreasureWalk walk = Check.loaded("walk 6 4;mark a 1 1;water 5 1 5 1;"
                + "clue a go 2 e;clue a go 2 e give 1;clue a go 1 e give 5;clue a go 9 e go 0 e;");
        Check.region(walk, 0, "3,1");
        Check.region(walk, 1, "2,1 3,1 4,1");
        Check.region(walk, 2, "1,1 2,1 3,1 4,1");
        reaches(walk, 3, 1, 0, 0);
        TreasureWalk far = Check.loaded("walk 6 4;mark a 0 0;mark b 3 0;"
                + "clue a go 7 e give 2;clue a go 8 e give 2;clue b or a go 2 s give 1 go 0 ne;"
                + "clue a go 1 e give 1 go 1 s give 1;");
        Check.region(far, 0, "5,0");
        Check.region(far, 1, "");
        Check.region(far, 2, "0,1 3,1 0,2 3,2 0,3 3,3");
        reaches(far, 2, 2, 6, 6);
        Check.region(far, 3, "0,0 1,0 2,0 0,1 1,1 2,1 0,2 1,2 2,2");
        reaches(far, 3, 1, 3, 9);
    }

    private static void goByEachBearing() {
        String[] bearings = {"n", "ne", "e", "se", "s", "sw", "w", "nw"};
        String[] due = {"2,0", "4,0", "4,2", "4,4", "2,4", "0,4", "0,2", "0,0"};
        for (int i = 0; i < 8; i++) {
            TreasureWalk walk = Check.loaded("walk 5 5;mark a 2 2;clue a go 2 " + bearings[i] + ";");
            Check.region(walk, 0, due[i]);
        }
    }

    private static void toReaches() {
        TreasureWalk walk = Check.loaded("walk 5 4;mark a 0 0;mark b 3 0;mark c 0 3;water 4 3 4 3;"
                + "clue a to b e;clue a to a n;clue a or b or c to b e;clue a to c e;");
        Check.region(walk, 0, "3,0");
        Check.region(walk, 1, "0,0");
        Check.region(walk, 2, "3,0");
        Check.region(walk, 3, "");
        TreasureWalk edge = Check.loaded("walk 5 1;mark a 0 0;mark b 4 0;mark c 2 0;water 3 0 3 0;"
                + "clue a to b e;clue a to c e;clue b to b w go 1 w;");
        Check.region(edge, 0, "");
        Check.region(edge, 1, "2,0");
        reaches(edge, 2, 1, 1, 0);
    }

    private static void endReaches() {
        TreasureWalk walk = Check.loaded("walk 5 4;mark a 0 0;mark b 2 1;water 4 1 4 1;water 3 2 3 2;"
                + "clue a end e;clue b end e end e;clue b end se;clue a or b end s;");
        Check.region(walk, 0, "4,0");
        Check.region(walk, 1, "3,1");
        Check.region(walk, 2, "2,1");
        Check.region(walk, 3, "0,3 2,3");
    }

    private static void sixtyPaces() {
        String toText = RING + "mark a 0 0;mark b 1 0;mark c 0 16;mark d 0 15;"
                + "clue a to c e;clue a to d e;clue b to d e;clue a or b to d e;";
        Check.region(toText, 0, "0,16");
        Check.region(toText, 1, "");
        Check.region(toText, 2, "0,15");
        TreasureWalk to = Check.loaded(toText);
        Check.answers(60, "60 paces to a mark", () -> to.walk(0, 0, 16, 0));
        Check.answers(1, "one start is too far", () -> to.starts(3, 0, 15));
        String endText = RING + "mark a 0 0;mark b 1 0;water 0 15 0 15;"
                + "clue a end e;clue b end e;clue a or b end e;clue a go 30 e go 25 e give 5;";
        Check.region(endText, 0, "");
        Check.region(endText, 1, "0,16");
        TreasureWalk end = Check.loaded(endText);
        Check.answers(59, "59 paces to the end", () -> end.walk(1, 0, 16, 0));
        Check.answers(1, "one start is too far from the end", () -> end.starts(2, 0, 16));
        reaches(end, 3, 1, 1, 11);
    }

    private static void millsHaveNoEnd() {
        TreasureWalk walk = Check.loaded(MILL + "clue a end e;clue a to c e;clue a to b e;"
                + "clue a go 6 e give 2;");
        Check.region(walk, 0, "");
        Check.region(walk, 1, "");
        Check.region(walk, 2, "0,1");
        Check.region(walk, 3, "0,0 1,0 0,1 1,1");
        Check.answers(4, "the fewest paces round the mill", () -> walk.walk(3, 0, 0, 0));
        Check.answers(5, "and a pace more", () -> walk.walk(3, 1, 0, 0));
        Check.answers(7, "and three more", () -> walk.walk(3, 0, 1, 0));
    }

    private static void startsAreReached() {
        TreasureWalk walk = Check.loaded("walk 4 4;mark a 1 1;mark b 2 2;mark c 1 1;"
                + "clue a or b or c;clue c or a;clue c or b go 1 e;");
        Check.region(walk, 0, "1,1 2,2");
        reaches(walk, 0, 2);
        reaches(walk, 1, 1);
        reaches(walk, 2, 2, 2);
    }

    private static void reachedRange() {
        TreasureWalk walk = Check.loaded("walk 4 4;mark a 1 1;clue a go 1 e;clue a;");
        Check.outside("reached(-1, 0)", () -> walk.reached(-1, 0));
        Check.outside("reached(2, 0)", () -> walk.reached(2, 0));
        Check.outside("no clue is ahead of no leg", () -> walk.reached(2, -1));
        Check.illegal("reached(0, 2)", () -> walk.reached(0, 2));
        Check.illegal("reached(1, 1)", () -> walk.reached(1, 1));
        Check.illegal("reached(0, -1)", () -> walk.reached(0, -1));
        Check.illegal("reached(0, MAX)", () -> walk.reached(0, Integer.MAX_VALUE));
        Check.answers(1, "reached(1, 0)", () -> walk.reached(1, 0));
    }

    private static void regionsOfClues() {
        TreasureWalk walk = Check.loaded("walk 3 3;mark a 0 0;clue a go 1 s give 1;");
        Check.answers(true, "ends(0, 0, 1)", () -> walk.ends(0, 0, 1));
        Check.answers(true, "ends(0, 0, 2)", () -> walk.ends(0, 0, 2));
        Check.answers(false, "ends(0, 1, 0)", () -> walk.ends(0, 1, 0));
        walk.use(0, false);
        Check.answers(true, "a clue out of use has a region", () -> walk.ends(0, 0, 1));
        Check.outside("ends(1, 0, 0)", () -> walk.ends(1, 0, 0));
        Check.outside("ends(-1, 0, 0)", () -> walk.ends(-1, 0, 0));
        Check.outside("ends(0, 3, 0)", () -> walk.ends(0, 3, 0));
        Check.outside("ends(0, 0, -1)", () -> walk.ends(0, 0, -1));
    }

    private static void whyTellsTheFirstClue() {
        TreasureWalk walk = Check.loaded("walk 4 2;water 3 0 3 0;mark a 0 0;mark b 1 1;"
                + "clue a go 1 e give 1;clue b go 1 n give 1;clue a or b go 2 e give 2;");
        Check.answers(0, "a candidate", () -> walk.why(1, 0));
        Check.answers(-1, "water", () -> walk.why(3, 0));
        Check.answers(1, "the first clue", () -> walk.why(1, 1));
        Check.answers(2, "the second clue", () -> walk.why(0, 0));
        walk.use(0, false);
        Check.answers(0, "the first clue is out of use", () -> walk.why(1, 1));
        Check.answers(2, "the second one is not", () -> walk.why(0, 1));
        walk.use(1, false);
        Check.answers(3, "the third clue", () -> walk.why(0, 1));
        walk.use(2, false);
        Check.answers(0, "no clue", () -> walk.why(0, 1));
        Check.answers(-1, "water without a clue", () -> walk.why(3, 0));
        walk.dig();
        Check.answers(0, "a dug candidate", () -> walk.why(0, 0));
        Check.outside("why(4, 0)", () -> walk.why(4, 0));
        Check.outside("why(0, 2)", () -> walk.why(0, 2));
        Check.outside("why(-1, 0)", () -> walk.why(-1, 0));
    }

    private static void walkIsTheFirstOne() {
        TreasureWalk walk = Check.loaded("walk 9 1;mark a 6 0;mark b 1 0;mark c 3 0;"
                + "clue b or c or a go 3 e give 2;clue c or b go 3 e give 2;clue a or b go 3 e give 2;");
        Check.answers(3, "the first start is farther", () -> walk.walk(0, 4, 0, 0));
        Check.answers(1, "the first start is nearer", () -> walk.walk(1, 4, 0, 0));
        Check.answers(3, "the first start does not lead there", () -> walk.walk(2, 4, 0, 0));
        Check.answers(5, "nor here", () -> walk.walk(2, 6, 0, 0));
        Check.answers(1, "here it does", () -> walk.walk(2, 7, 0, 0));
    }

    private static void walkPrefersEarlyLegs() {
        TreasureWalk walk = Check.loaded("walk 9 9;mark a 0 0;mark b 4 4;"
                + "clue a go 3 e give 3 go 3 e give 3 end s;clue a go 2 se give 2 to b se go 2 n give 2;"
                + "clue a go 3 e give 2 go 3 e give 1 go 2 e give 2;");
        int[] first = {0, 5, 8};
        int[] second = {0, 4, 3};
        int[] third = {1, 3, 4};
        for (int i = 0; i < 3; i++) {
            int leg = i;
            Check.answers(first[i], "few paces at first, leg " + i, () -> walk.walk(0, 5, 8, leg));
            Check.answers(second[i], "over a mark, leg " + i, () -> walk.walk(1, 4, 1, leg));
            Check.answers(third[i], "as few as lead there, leg " + i, () -> walk.walk(2, 8, 0, leg));
        }
    }

    private static void walkOfEightLegs() {
        TreasureWalk walk = Check.loaded("walk 9 9;mark a 0 0;mark b 8 8;clue a;clue b or a go 1 e give 1 "
                + "go 1 s give 1 go 1 e give 1 go 1 s give 1 go 1 e go 0 n go 3 s give 3 end se;");
        int[] east = {2, 0, 2, 0, 1, 0, 0, 3};
        int[] south = {0, 0, 0, 2, 1, 0, 6, 0};
        for (int i = 0; i < 8; i++) {
            int leg = i;
            Check.answers(east[i], "walk to the east, leg " + i, () -> walk.walk(1, 8, 3, leg));
            Check.answers(south[i], "walk to the south, leg " + i, () -> walk.walk(1, 1, 8, leg));
        }
        Check.answers(1, "starts of eight legs", () -> walk.starts(1, 8, 6));
        reaches(walk, 1, 2, 4, 10, 16, 26, 25, 25, 45, 13);
    }

    private static void walkRange() {
        TreasureWalk walk = Check.loaded("walk 3 3;mark a 0 0;clue a go 1 s give 1;clue a;");
        Check.outside("walk(2, ..)", () -> walk.walk(2, 0, 0, 0));
        Check.outside("walk(-1, ..)", () -> walk.walk(-1, 0, 0, 0));
        Check.outside("walk(0, 3, ..)", () -> walk.walk(0, 3, 0, 0));
        Check.outside("walk(0, 0, 3, ..)", () -> walk.walk(0, 0, 3, 0));
        Check.outside("walk of leg 1", () -> walk.walk(0, 0, 0, 1));
        Check.outside("walk of leg -1", () -> walk.walk(0, 0, 0, -1));
        Check.outside("no leg is ahead of no walk", () -> walk.walk(0, 2, 2, 1));
        Check.outside("a clue without legs", () -> walk.walk(1, 0, 0, 0));
        Check.none("walk to another cell", () -> walk.walk(0, 1, 0, 0));
        Check.answers(2, "walk to the last cell", () -> walk.walk(0, 0, 2, 0));
    }

    private static void startsAreCounted() {
        TreasureWalk walk = Check.loaded("walk 9 2;water 8 1 8 1;mark a 0 0;mark b 2 0;mark c 2 0;"
                + "mark d 5 0;clue a or b or c or d go 2 e give 2 go 1 e give 1;clue d or a end e;"
                + "clue b or c or a;");
        Check.answers(1, "one start", () -> walk.starts(0, 0, 0));
        Check.answers(3, "two marks on a cell are two starts", () -> walk.starts(0, 3, 0));
        Check.answers(4, "four starts", () -> walk.starts(0, 5, 0));
        Check.answers(3, "all but the first", () -> walk.starts(0, 8, 0));
        Check.answers(0, "no walk ends there", () -> walk.starts(0, 0, 1));
        Check.answers(0, "water", () -> walk.starts(0, 8, 1));
        Check.answers(2, "both starts", () -> walk.starts(1, 8, 0));
        Check.answers(2, "starts of a clue without legs", () -> walk.starts(2, 2, 0));
        Check.answers(0, "a mark that is none", () -> walk.starts(2, 5, 0));
    }

    private static void startsRange() {
        TreasureWalk walk = Check.loaded("walk 3 3;mark a 0 0;clue a;");
        Check.outside("starts(1, 0, 0)", () -> walk.starts(1, 0, 0));
        Check.outside("starts(-1, 0, 0)", () -> walk.starts(-1, 0, 0));
        Check.outside("starts(0, 3, 0)", () -> walk.starts(0, 3, 0));
        Check.outside("starts(0, 0, 3)", () -> walk.starts(0, 0, 3));
        Check.answers(1, "starts(0, 0, 0)", () -> walk.starts(0, 0, 0));
    }
}
