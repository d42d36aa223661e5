/** The boundary cases of the errors of a setup text: which one is the first, and where it is. */
final class ErrorBoundaries {
    private static final int SYNTAX = TreasureWalk.SYNTAX_ERROR;
    private static final int RANGE = TreasureWalk.OUT_OF_RANGE;
    private static final int REPEATED = TreasureWalk.REPEATED;
    private static final int UNKNOWN = TreasureWalk.UNKNOWN;
    private static final int TOO_MANY = TreasureWalk.TOO_MANY;
    private static final int WET = TreasureWalk.WET;

    private static final String MARKED = "walk 5 5;mark a 0 0;";

    private ErrorBoundaries() {
    }

    static void run() {
        theFirstOfTwo();
        errorsOfOneStatement();
        kindsOfOneOffset();
        syntaxOfTokens();
        syntaxOfTheEnd();
        syntaxOfASecondTeam();
        ranges();
        marksToldAgain();
        startsToldAgain();
        marksNotTold();
        tooManyBendsAndClues();
        tooManyLegs();
        marksAndTeamsOnWater();
        waterOnMarksAndTeam();
        noLandLeft();
        codes();
    }

    /** Two statements with an error each: the one that stands first in the text counts. */
    private static void theFirstOfTwo() {
        Check.sentence("The first error in the text is the one with the smallest offset.");
        StringBuilder text = new StringBuilder("walk 5 5;mark a 0 0;team 1 1;water 4 4 4 4;clue a;");
        for (int i = 0; i < 8; i++) {
            text.append("bend 0 0 0 0 left 1;");
        }
        String[] wrongs = {"lake;", "team 2 2;", "mark b 5 0;", "water 0 0 0 5;", "mark a 2 2;", "clue a or a;",
            "clue b;", "clue a to b e;", "bend 0 0 0 0 left 1;", "mark c 4 4;", "water 0 0 0 0;", "water 1 1 1 1;",
            "mark d 3", "clue a go 31 e;", "clue"};
        int[] codes = {SYNTAX, SYNTAX, RANGE, RANGE, REPEATED, REPEATED, UNKNOWN, UNKNOWN, TOO_MANY, WET, WET, WET,
            SYNTAX, RANGE, SYNTAX};
        int[] places = {0, 0, 7, 12, 5, 10, 5, 10, 0, 7, 6, 6, 8, 10, 4};
        for (int first = 0; first < wrongs.length; first++) {
            Check.bad(codes[first], text.length() + places[first], text + wrongs[first]);
            for (String second : wrongs) {
                if (wrongs[first].endsWith(";")) {
                    Check.bad(codes[first], text.length() + places[first], text + wrongs[first] + second);
                }
            }
        }
    }

    private static void errorsOfOneStatement() {
        Check.sentence("The first error in the text is the one with the smallest offset.");
        String lake = "walk 5 5;water 0 0 0 4;mark a 1 1;";
        Check.badAt(REPEATED, "a 0", lake + "mark a 0 0;");
        Check.badAt(REPEATED, "a 9", lake + "mark a 9 9?");
        Check.badAt(REPEATED, "a", lake + "mark a");
        Check.badAt(WET, "0 0?", lake + "mark b 0 0?");
        Check.badAt(WET, "0 4", lake + "team 0 4");
        Check.badAt(RANGE, "5;", lake + "mark b 0 5;");
        Check.badAt(SYNTAX, "?", lake + "mark b 0?");
        Check.badAt(SYNTAX, "?", lake + "water 1 1 1?");
        Check.badAt(WET, "1 1 1 1?", lake + "water 1 1 1 1?");
        Check.badAt(RANGE, "9;", lake + "water 1 1 1 9;");
        Check.badAt(RANGE, "0;", lake + "water 1 1 1 0;");
        Check.badAt(UNKNOWN, "b or b", lake + "clue b or b or a or a;");
        Check.badAt(UNKNOWN, "b go", lake + "clue a or b go 99 x;");
        Check.badAt(RANGE, "99", lake + "clue a go 99 x to b;");
        Check.badAt(SYNTAX, "x", lake + "clue a go 1 x to b e;");
        Check.badAt(UNKNOWN, "b x", lake + "clue a to b x;");
        Check.badAt(RANGE, "9 9 9 9", lake + "bend 9 9 9 9 up 9;");
        Check.badAt(SYNTAX, "up", lake + "bend 0 0 0 0 up 9;");
        Check.badAt(RANGE, "9?", lake + "bend 0 0 0 0 left 9?");
    }

    private static void kindsOfOneOffset() {
        Check.sentence("If several kinds of error have the same offset, the first one in this list counts:");
        StringBuilder bends = new StringBuilder("walk 5 5;");
        for (int i = 0; i < 8; i++) {
            bends.append("bend 0 0 0 0 left 1;");
        }
        Check.bad(SYNTAX, bends.length(), bends + "bended 0 0 0 0 left 1;");
        Check.bad(SYNTAX, bends.length(), bends + "ben 0 0 0 0 left 1;");
        String clues = MARKED + "clue a;clue a;clue a;clue a;";
        Check.bad(SYNTAX, clues.length(), clues + "clues a;");
        Check.bad(SYNTAX, clues.length(), clues + "cluea;");
        String legs = MARKED + "clue a" + " end e".repeat(8);
        Check.bad(SYNTAX, legs.length() + 1, legs + " ende;");
        Check.bad(SYNTAX, legs.length() + 1, legs + " or a;");
        String lake = "walk 5 5;water 4 0 4 4;team 0 0;mark a 1 1;";
        Check.badAt(SYNTAX, "team", lake + "team 4 4;");
        Check.badAt(SYNTAX, "team", lake + "team 9 9;");
        Check.badAt(RANGE, "5 4", lake + "mark b 5 4;");
        Check.badAt(RANGE, "5 4?", lake + "mark b 5 4?");
        Check.badAt(RANGE, "5 0 5", lake + "water 5 0 5 0;");
        Check.badAt(SYNTAX, "?", "walk 5 5;water 0 0 4 4?");
        Check.badAt(SYNTAX, "9", "walk 5 5;water 0 0 4 4 9;");
        Check.badAt(SYNTAX, "ab", lake + "mark ab 9 9;");
        Check.badAt(SYNTAX, "99", lake + "mark 99 9 9;");
    }

    private static void syntaxOfTokens() {
        Check.sentence("a token or byte that the grammar does not allow here, at its first byte");
        Check.bad(SYNTAX, 11, "walk 5 5;  lake 0 0;");
        Check.bad(SYNTAX, 11, "walk 5 5;  12345;");
        Check.bad(SYNTAX, 10, "walk 5 5  ?;");
        Check.bad(SYNTAX, 12, "walk 5 5;   ?");
        Check.bad(SYNTAX, 9, "walk 5 5 1;");
        Check.bad(SYNTAX, 9, "walk 5 5 a;");
        Check.bad(SYNTAX, 5, "walk abc 5;");
        Check.bad(SYNTAX, 6, "walk 5;5;");
        Check.bad(SYNTAX, 5, "walk -5 5;");
        Check.bad(SYNTAX, 5, "walk +5 5;");
        Check.bad(SYNTAX, 6, "walk 5.5 5;");
        Check.bad(SYNTAX, 0, "\u00ffwalk 5 5;");
    }

    private static void syntaxOfTheEnd() {
        Check.sentence("the end of the text, at its length, if the text ends too early");
        Check.bad(SYNTAX, 0, "");
        Check.bad(SYNTAX, 1, " ");
        Check.bad(SYNTAX, 3, "   ");
        Check.bad(SYNTAX, 4, "walk");
        Check.bad(SYNTAX, 6, "walk 5");
        Check.bad(SYNTAX, 8, "walk 5 5");
        Check.bad(SYNTAX, 11, "walk 5 5   ");
        Check.good(0, "walk 5 5;   ");
        Check.bad(SYNTAX, 13, "walk 5 5;team");
        Check.bad(SYNTAX, 21, "walk 5 5;water 0 0 0 ");
        Check.bad(SYNTAX, 22, "walk 5 5;water 0 0 0 0");
        String[] ends = {"clue", "clue a", "clue a ", "clue a or", "clue a go", "clue a go 1", "clue a go 1 e",
            "clue a go 1 e give", "clue a go 1 e give 1", "clue a to", "clue a to a", "clue a to a e", "clue a end",
            "clue a end e", "bend", "bend 0 0 0 0", "bend 0 0 0 0 left", "bend 0 0 0 0 left 1", "mark", "mark b",
            "mark b 0", "mark b 0 0", "team 0", "team 0 0", "water", "water 1", "water 1 1 1 1  "};
        for (String end : ends) {
            Check.bad(SYNTAX, MARKED.length() + end.length(), MARKED + end);
        }
    }

    private static void syntaxOfASecondTeam() {
        Check.sentence("a second team, at its first letter.");
        Check.bad(SYNTAX, 18, "walk 5 5;team 0 0;team 0 0;");
        Check.bad(SYNTAX, 20, "walk 5 5;team 0 0;  team 1 1;");
        Check.bad(SYNTAX, 18, "walk 5 5;team 0 0;team");
        Check.bad(SYNTAX, 18, "walk 5 5;team 0 0;team 9 9;");
        Check.badAt(SYNTAX, "team", "walk 5 5;team 0 0;mark a 1 1;clue a;team 2 2;");
    }

    private static void ranges() {
        Check.sentence("- OUT_OF_RANGE: a number outside its range, at its first digit.");
        Check.bad(RANGE, 7, "walk 5 0021;");
        Check.bad(RANGE, 7, "walk 5 0;");
        Check.bad(RANGE, 9, "walk 5   21;");
        Check.bad(RANGE, 4, "walk21 5;");
        String head = "walk 5 4;mark a 0 0;";
        String[] wrongs = {"mark b 005 0;", "mark b 0 004;", "team 5 0;", "team 0 4;", "water 5 0 4 3;",
            "water 0 4 4 3;", "water 1 1 0 3;", "water 1 1 5 3;", "water 1 1 4 0;", "water 1 1 4 4;",
            "bend 5 0 4 3 left 1;", "bend 0 4 4 3 left 1;", "bend 1 1 0 3 left 1;", "bend 1 1 4 0 left 1;",
            "bend 0 0 4 3 left 0;", "bend 0 0 4 3 right 04;", "clue a go 031 e;", "clue a go 1 e give 06;",
            "clue a go 30 e go 31 e;"};
        String[] numbers = {"005", "004", "5 0", "4;", "5 0", "4 4", "0 3", "5 3", "0;", "4;", "5 0", "4 4", "0 3",
            "0 l", "0;", "04", "031", "06", "31"};
        for (int i = 0; i < wrongs.length; i++) {
            Check.bad(RANGE, head.length() + wrongs[i].lastIndexOf(numbers[i]), head + wrongs[i]);
        }
    }

    private static void marksToldAgain() {
        Check.sentence("a mark that is told already, at its letter in the statement mark");
        Check.bad(REPEATED, 25, MARKED + "mark a 1 1;");
        Check.bad(REPEATED, 25, MARKED + "mark a 0 0;");
        Check.bad(REPEATED, 28, MARKED + "  mark  a 0 0;");
        Check.badAt(REPEATED, "h 1", MARKED + "mark h 0 0;mark b 0 0;clue h;mark h 1 1;");
        Check.good(0, MARKED + "mark b 0 0;");
        Check.good(2, MARKED + "clue a;mark b 1 1;clue b or a;");
    }

    private static void startsToldAgain() {
        Check.sentence("a mark that is told already among the starts of the same clue, at its letter.");
        String head = MARKED + "mark b 0 0;mark h 4 4;";
        Check.badAt(REPEATED, "a;", head + "clue a or a;");
        Check.badAt(REPEATED, "a;", head + "clue a or b or a;");
        Check.badAt(REPEATED, "b o", head + "clue a or b or b or a;");
        Check.badAt(REPEATED, "h e", head + "clue h or a or b or   h end e;");
        Check.good(1, head + "clue a or b or h;");
        Check.good(2, head + "clue a or b;clue a or b;");
        Check.good(1, head + "clue a or h to a nw to a nw to h se;");
    }

    private static void marksNotTold() {
        Check.sentence("- UNKNOWN: a mark that is not told before, at its letter (in a clue).");
        Check.bad(UNKNOWN, 14, "walk 5 5;clue a;");
        Check.bad(UNKNOWN, 16, "walk 5 5;clue   a;mark a 0 0;");
        Check.badAt(UNKNOWN, "b;", MARKED + "clue a or b;");
        Check.badAt(UNKNOWN, "h e", MARKED + "clue a to h e;");
        Check.badAt(UNKNOWN, "h e", MARKED + "clue a end e to h e;");
        Check.bad(UNKNOWN, 25, MARKED + "clue b;mark b 0 0;");
        Check.badAt(UNKNOWN, "c;", MARKED + "mark b 0 0;mark d 0 0;clue a or b or c;");
        Check.good(1, MARKED + "mark b 0 0;clue b;");
        TreasureWalk walk = Check.loaded(MARKED + "mark b 1 1;clue b;");
        Check.answers(UNKNOWN, "a mark of an earlier text", () -> Check.load(walk, MARKED + "clue b;"));
    }

    private static void tooManyBendsAndClues() {
        Check.sentence("a 9th bend or a 5th clue, at the first letter of its statement");
        StringBuilder bends = new StringBuilder("walk 5 5;");
        for (int i = 0; i < 8; i++) {
            bends.append("bend 0 0 4 4 right 3;");
            Check.good(0, bends.toString());
        }
        Check.bad(TOO_MANY, bends.length(), bends + "bend 0 0 4 4 right 3;");
        Check.bad(TOO_MANY, bends.length() + 3, bends + "   bend 9 9;");
        Check.bad(TOO_MANY, bends.length(), bends + "bend");
        Check.bad(TOO_MANY, bends.length() + 11, bends + "mark a 0 0;bend?");
        String clues = MARKED + "clue a;clue a;clue a;clue a;";
        Check.good(4, clues);
        Check.bad(TOO_MANY, clues.length(), clues + "clue a;");
        Check.bad(TOO_MANY, clues.length() + 2, clues + "  clue b;");
        Check.bad(TOO_MANY, clues.length(), clues + "clue");
        Check.good(4, clues + "mark b 0 0;bend 0 0 0 0 left 1;team 1 1;");
    }

    private static void tooManyLegs() {
        Check.sentence("a 9th leg, at its first letter.");
        String[] legs = {" go 1 e", " go 1 e give 1", " to a e", " end e"};
        for (String leg : legs) {
            String eight = MARKED + "clue a" + leg.repeat(8);
            Check.good(1, eight + ";");
            Check.bad(TOO_MANY, eight.length() + 1, eight + leg + ";");
            Check.bad(TOO_MANY, eight.length() + 3, eight + "  " + leg + leg + "?");
            Check.bad(TOO_MANY, eight.length() + 2, eight + "  go 99;");
        }
        String eight = MARKED + "clue a" + " end e".repeat(8);
        Check.bad(TOO_MANY, eight.length() + 1, eight + " go");
        Check.bad(TOO_MANY, eight.length() + 1, eight + " to");
        Check.bad(TOO_MANY, eight.length() + 1, eight + " end");
        Check.bad(TOO_MANY, eight.length() + 1, eight + " to b e;");
        Check.good(2, eight + ";clue a" + " go 1 e".repeat(8) + ";");
    }

    private static void marksAndTeamsOnWater() {
        Check.sentence("- WET: a mark or a team on a cell of water that is told before it, at the digit of its x");
        String lake = "walk 5 5;water 1 1 3 3;";
        for (String statement : new String[] {"mark a ", "team "}) {
            int offset = lake.length() + statement.length();
            for (String cell : new String[] {"1 1", "3 1", "1 3", "3 3", "2 2"}) {
                Check.bad(WET, offset, lake + statement + cell + ";");
                Check.bad(WET, offset + 2, lake + statement + "  " + cell + ";");
                Check.bad(WET, offset, lake + statement + "00" + cell + ";");
                Check.bad(WET, offset, lake + statement + cell);
            }
            for (String cell : new String[] {"0 0", "0 1", "1 0", "4 3", "3 4", "4 4", "0 2", "2 4"}) {
                Check.good(0, lake + statement + cell + ";");
            }
            Check.bad(WET, 9 + statement.length() + 14, "walk 5 5;water 4 4 4 4;" + statement + "4 4;");
        }
    }

    private static void waterOnMarksAndTeam() {
        Check.sentence("an area of water (its four numbers being in their ranges) with a mark or the team that is told "
                + "before it in it, at the first digit of its first number");
        for (String statement : new String[] {"mark a 2 2;", "mark h 2 2;", "team 2 2;", "mark b 0 0;mark c 2 2;"}) {
            String head = "walk 5 5;" + statement;
            for (String area : new String[] {"2 2 2 2", "0 2 2 4", "2 0 4 2", "1 2 3 2", "2 1 2 3", "1 1 3 3"}) {
                Check.bad(WET, head.length() + 6, head + "water " + area + ";");
                Check.bad(WET, head.length() + 6, head + "water 0" + area + ";");
                Check.bad(WET, head.length() + 8, head + "water   " + area);
                Check.bad(SYNTAX, head.length() + 12, head + "water " + area.substring(0, 5) + " ?");
                Check.bad(RANGE, head.length() + 12, head + "water " + area.substring(0, 5) + " 5;");
            }
            for (String area : new String[] {"1 0 4 1", "3 0 4 4", "1 3 4 4", "0 1 1 4", "3 3 3 3", "1 1 1 1"}) {
                Check.good(0, head + "water " + area + ";");
            }
        }
        Check.bad(WET, 26, MARKED + "water 0 0 4 4;");
        Check.good(0, "walk 5 5;water 0 0 3 4;");
        Check.answers(24, "a team that is not told is not in the way", () -> Check.loaded("walk 5 5;"
                + "water 0 0 3 4;water 4 0 4 3;").state(10));
    }

    private static void noLandLeft() {
        Check.sentence("the \";\" behind an area of water if no cell of land is left then.");
        Check.bad(WET, 22, "walk 5 5;water 0 0 4 4;");
        Check.bad(WET, 24, "walk 5 5;water 0 0 4 4  ;");
        Check.bad(WET, 22, "walk 1 1;water 0 0 0 0;");
        Check.bad(WET, 26, "walk 20 20;water 0 0 19 19;");
        Check.badAt(WET, ";", "walk 5 5;water 0 0 4 3;water 0 4 3 4;water 4 4 4 4;");
        Check.badAt(WET, ";", "walk 5 5;water 0 0 4 3;water 0 4 3 4;water 0 0 4 4;");
        Check.bad(WET, 22, "walk 5 5;water 0 0 4 4;lake");
        Check.bad(WET, 22, "walk 5 5;water 0 0 4 4;mark a 0 0;");
        Check.bad(SYNTAX, 22, "walk 5 5;water 0 0 4 4");
        Check.bad(SYNTAX, 23, "walk 5 5;water 0 0 4 4 mark a 0 0;");
        Check.good(0, "walk 5 5;water 0 0 4 3;water 0 4 3 4;");
        Check.good(0, "walk 5 5;water 1 0 4 4;water 0 1 0 4;");
        Check.good(0, "walk 2 1;water 0 0 0 0;");
    }

    private static void codes() {
        Check.sentence("Error code of load: the text does not follow the grammar.");
        Check.bad(-2, 0, "?");
        Check.sentence("Error code of load: a number is not allowed.");
        Check.bad(-3, 5, "walk 0 0;");
        Check.sentence("Error code of load: a mark is told twice.");
        Check.bad(-4, 25, MARKED + "mark a 1 1;");
        Check.sentence("Error code of load: a mark is not told before.");
        Check.bad(-5, 14, "walk 5 5;clue a;");
        Check.sentence("Error code of load: too many bends, clues or legs.");
        Check.bad(-6, 48, MARKED + "clue a;clue a;clue a;clue a;clue a;");
        Check.sentence("Error code of load: a mark or the team would be in the water, or there would be no land.");
        Check.bad(-7, 22, "walk 5 5;water 0 0 4 4;");
        Check.answers(-2, "SYNTAX_ERROR", () -> TreasureWalk.SYNTAX_ERROR);
        Check.answers(-3, "OUT_OF_RANGE", () -> TreasureWalk.OUT_OF_RANGE);
        Check.answers(-4, "REPEATED", () -> TreasureWalk.REPEATED);
        Check.answers(-5, "UNKNOWN", () -> TreasureWalk.UNKNOWN);
        Check.answers(-6, "TOO_MANY", () -> TreasureWalk.TOO_MANY);
        Check.answers(-7, "WET", () -> TreasureWalk.WET);
    }
}
