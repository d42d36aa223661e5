/** Promises 13 to 17: distance, nearest, tour, part and meanDistance. */
public final class RouteTests {
    private RouteTests() {
    }

    public static void main(String[] args) {
        distanceGoesRoundWater();
        distanceRange();
        nearestIsTheFirstOfSeveral();
        nearestMustBeReachable();
        toursOfOneRow();
        toursNeedNotReturn();
        toursOfNine();
        toursThatCannotBe();
        partsByAllBearings();
        partRange();
        means();
        Check.finish();
    }

    private static void distanceGoesRoundWater() {
        TreasureWalk walk = Check.loaded("walk 6 5;water 2 0 2 3;water 5 0 5 0;water 4 1 5 1;"
                + "bend 0 0 5 4 right 1;team 1 1;");
        Check.answers(0, "to where the team is", () -> walk.distance(1, 1));
        Check.answers(1, "across", () -> walk.distance(0, 0));
        Check.answers(3, "to the south", () -> walk.distance(2, 4));
        Check.answers(4, "beyond the water", () -> walk.distance(3, 3));
        Check.answers(7, "far beyond the water", () -> walk.distance(3, 0));
        Check.answers(7, "and aside", () -> walk.distance(4, 0));
        Check.answers(-1, "water", () -> walk.distance(2, 2));
        walk.moveTo(3, 0);
        Check.answers(7, "back", () -> walk.distance(1, 1));
        TreasureWalk parted = Check.loaded("walk 5 5;water 2 0 2 4;");
        Check.answers(-1, "no way", () -> parted.distance(3, 0));
        Check.answers(4, "a way", () -> parted.distance(1, 4));
        TreasureWalk wide = Check.loaded("walk 20 20;");
        Check.answers(19, "over the widest map", () -> wide.distance(19, 19));
        TreasureWalk snake = Check.loaded("walk 20 20;water 0 1 18 1;water 1 3 19 3;water 0 5 18 5;"
                + "water 1 7 19 7;water 0 9 18 9;water 1 11 19 11;water 0 13 18 13;water 1 15 19 15;"
                + "water 0 17 18 17;water 1 19 19 19;");
        Check.answers(190, "along a snake", () -> snake.distance(0, 19));
    }

    private static void distanceRange() {
        TreasureWalk walk = Check.loaded("walk 3 2;");
        Check.outside("distance(3, 0)", () -> walk.distance(3, 0));
        Check.outside("distance(0, 2)", () -> walk.distance(0, 2));
        Check.outside("distance(-1, 0)", () -> walk.distance(-1, 0));
        Check.outside("distance(0, -1)", () -> walk.distance(0, -1));
    }

    private static void nearestIsTheFirstOfSeveral() {
        TreasureWalk walk = Check.loaded("walk 5 5;mark a 0 2;mark b 4 0;mark c 2 4;mark d 4 4;team 2 2;"
                + "clue a or b or c or d;clue d or b;clue b or c or d go 0 e;");
        walk.use(1, false);
        walk.use(2, false);
        Check.answers(4, "the first of four", () -> walk.nearest());
        walk.use(1, true);
        Check.answers(4, "the first of two", () -> walk.nearest());
        walk.moveTo(3, 3);
        Check.answers(24, "the nearest of two", () -> walk.nearest());
        walk.moveTo(4, 4);
        Check.answers(24, "where the team is", () -> walk.nearest());
        walk.dig();
        Check.answers(4, "dug is not left", () -> walk.nearest());
        walk.moveTo(4, 0);
        walk.dig();
        Check.answers(-1, "none is left", () -> walk.nearest());
    }

    private static void nearestMustBeReachable() {
        TreasureWalk walk = Check.loaded("walk 5 1;water 2 0 2 0;mark a 3 0;mark b 0 0;team 1 0;"
                + "clue a or b;clue a;");
        Check.answers(-1, "no way to the one that is left", () -> walk.nearest());
        walk.use(1, false);
        Check.answers(0, "a way to one of two", () -> walk.nearest());
        walk.use(0, false);
        Check.answers(1, "all are left", () -> walk.nearest());
    }

    private static void toursOfOneRow() {
        TreasureWalk walk = Check.loaded("walk 9 1;team 3 0;mark a 1 0;mark b 8 0;clue a or b;");
        Check.answers(9, "the near end first", () -> walk.tour());
        walk.moveTo(5, 0);
        Check.answers(10, "the other end is near", () -> walk.tour());
        walk.moveTo(8, 0);
        Check.answers(7, "from one of the two", () -> walk.tour());
        walk.dig();
        Check.answers(7, "one that is dug counts no more", () -> walk.tour());
        walk.moveTo(1, 0);
        Check.answers(0, "the team is there", () -> walk.tour());
        walk.dig();
        Check.answers(0, "none is left", () -> walk.tour());
        walk.use(0, false);
        Check.answers(8, "all but the two", () -> walk.tour());
    }

    private static void toursNeedNotReturn() {
        TreasureWalk walk = Check.loaded("walk 9 9;water 1 1 7 7;mark a 0 8;mark b 8 0;mark c 8 8;"
                + "mark d 4 0;team 0 1;clue a or b or c or d;");
        Check.answers(24, "round a lake", () -> walk.tour());
        walk.moveTo(0, 0);
        Check.answers(24, "round a lake from the corner", () -> walk.tour());
        TreasureWalk both = Check.loaded("walk 9 9;water 1 1 7 7;mark a 0 3;mark b 7 0;mark d 4 0;"
                + "clue a or b or d;");
        Check.answers(12, "there and back", () -> both.tour());
    }

    private static void toursOfNine() {
        TreasureWalk walk = Check.loaded("walk 20 20;mark a 0 0;clue a go 1 e give 1 go 1 s give 1;"
                + "clue a go 4 e give 5 go 1 s;clue a go 4 e give 5 go 0 n;clue a go 5 e give 5;");
        walk.use(1, false);
        walk.use(2, false);
        walk.use(3, false);
        Check.answers(8, "nine cells of a square", () -> walk.tour());
        walk.moveTo(1, 1);
        Check.answers(8, "from the middle of the square", () -> walk.tour());
        walk.moveTo(19, 19);
        Check.answers(25, "from far away", () -> walk.tour());
        walk.use(0, false);
        walk.use(1, true);
        Check.answers(-2, "ten cells", () -> walk.tour());
        walk.use(1, false);
        walk.use(3, true);
        Check.answers(-2, "eleven cells", () -> walk.tour());
        walk.moveTo(5, 0);
        walk.dig();
        walk.moveTo(10, 0);
        walk.dig();
        Check.answers(10, "nine of them are left", () -> walk.tour());
    }

    private static void toursThatCannotBe() {
        TreasureWalk walk = Check.loaded("walk 20 3;water 10 0 10 2;mark a 0 0;mark b 15 0;team 3 0;"
                + "clue a or b;clue b;clue b or a go 3 e give 1;clue b or a go 2 e give 2;");
        walk.use(1, false);
        walk.use(2, false);
        walk.use(3, false);
        Check.answers(-1, "one of two cannot be reached", () -> walk.tour());
        walk.use(0, false);
        walk.use(3, true);
        Check.answers(-2, "too many, of which some cannot be reached", () -> walk.tour());
        walk.use(3, false);
        walk.use(2, true);
        Check.answers(-1, "six of which three cannot be reached", () -> walk.tour());
        walk.use(1, true);
        Check.answers(0, "none is left", () -> walk.tour());
    }

    private static void partsByAllBearings() {
        TreasureWalk walk = Check.loaded("walk 7 4;mark a 0 0;mark b 3 3;mark c 2 1;mark d 6 3;mark e 1 1;"
                + "mark f 2 0;mark g 5 1;mark h 4 1;water 3 1 3 2;clue a or b or c or d or e or f or g or h;");
        Check.answers(4, "parts", () -> walk.state(9));
        Check.answers(4, "a part that is joined askew", () -> walk.part(0, 0));
        Check.answers(4, "its other end", () -> walk.part(2, 0));
        Check.answers(1, "one alone", () -> walk.part(3, 3));
        Check.answers(2, "two side by side", () -> walk.part(4, 1));
        Check.answers(1, "in the corner", () -> walk.part(6, 3));
        Check.answers(0, "no candidate", () -> walk.part(1, 0));
        Check.answers(0, "water", () -> walk.part(3, 1));
        walk.moveTo(1, 1);
        walk.dig();
        Check.answers(0, "dug", () -> walk.part(1, 1));
        Check.answers(1, "a part is parted", () -> walk.part(0, 0));
        Check.answers(2, "its other part", () -> walk.part(2, 1));
        Check.answers(5, "the parts then", () -> walk.state(9));
        walk.use(0, false);
        Check.answers(25, "all but the dug one", () -> walk.part(6, 3));
        Check.answers(1, "is one part", () -> walk.state(9));
    }

    private static void partRange() {
        TreasureWalk walk = Check.loaded("walk 3 2;");
        Check.outside("part(3, 0)", () -> walk.part(3, 0));
        Check.outside("part(0, 2)", () -> walk.part(0, 2));
        Check.outside("part(-1, 0)", () -> walk.part(-1, 0));
        Check.outside("part(0, -1)", () -> walk.part(0, -1));
        Check.answers(6, "part(2, 1)", () -> walk.part(2, 1));
    }

    private static void means() {
        TreasureWalk walk = Check.loaded("walk 8 1;water 6 0 6 0;mark a 1 0;mark b 2 0;mark c 5 0;mark d 7 0;"
                + "clue a or b or c;clue d or a;clue d;");
        walk.use(1, false);
        walk.use(2, false);
        Check.answers(8.0 / 3.0, "the mean of three", () -> walk.meanDistance());
        walk.moveTo(2, 0);
        Check.answers(4.0 / 3.0, "the mean with one where the team is", () -> walk.meanDistance());
        walk.dig();
        Check.answers(2.0, "one is dug", () -> walk.meanDistance());
        walk.use(0, false);
        walk.use(1, true);
        Check.answers(1.0, "one cannot be reached", () -> walk.meanDistance());
        walk.use(2, true);
        Check.answers(0.0, "none can be reached", () -> walk.meanDistance());
        walk.use(0, true);
        Check.answers(0.0, "none is left", () -> walk.meanDistance());
    }
}
