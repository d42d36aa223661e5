/** Promises 1 to 4: a new object, append, load and errorOffset. */
public final class SetupTests {
    private static final String MARKED = "walk 5 5;mark a 0 0;";

    private SetupTests() {
    }

    public static void main(String[] args) {
        newObject();
        appendTellsLengths();
        appendPutsHighBytesFirst();
        loadTakesLengthsOfTheBuffer();
        loadReplacesAllData();
        loadForgetsOldClues();
        loadReadsTokensFreely();
        syntaxErrors();
        rangeErrors();
        markErrors();
        countErrors();
        wetErrors();
        firstErrorCounts();
        errorLeavesData();
        errorOffsetIsOfTheLatestLoad();
        Check.finish();
    }

    private static void newObject() {
        TreasureWalk walk = new TreasureWalk();
        int[] due = {1, 1, 0, 0, 0, 0, 1, 1, 0, 1, 0, 0, 0};
        Check.states("new", walk, due);
        Check.answers(3, "new: cell(0, 0)", () -> walk.cell(0, 0));
        Check.outside("new: cell(1, 0)", () -> walk.cell(1, 0));
        Check.outside("new: cell(0, 1)", () -> walk.cell(0, 1));
        Check.answers(-1, "new: pace", () -> walk.pace(0, 0, 3));
        Check.outside("new: reached", () -> walk.reached(0, 0));
        Check.outside("new: turn", () -> walk.turn(0, 0));
        Check.illegal("new: load(1)", () -> walk.load(1));
        Check.answers(-1, "new: errorOffset", () -> walk.errorOffset());
        Check.answers(-1, "new: undo", () -> walk.undo());
        Check.answers(20, "new: append", () -> walk.append(0, 0, 0, 0, 0));
    }

    private static void appendTellsLengths() {
        TreasureWalk walk = new TreasureWalk();
        for (int length = 20; length <= 600; length += 20) {
            Check.answers(length, "append", () -> walk.append(0, 0, 0, 0, 0));
        }
        Check.answers(-1, "append beyond 600", () -> walk.append(1, 2, 3, 4, 5));
        Check.illegal("append beyond 600 changes nothing", () -> walk.load(601));
        Check.answers(-2, "load of a full buffer", () -> walk.load(600));
        Check.answers(20, "append behind load", () -> walk.append(0, 0, 0, 0, 0));
    }

    private static void appendPutsHighBytesFirst() {
        TreasureWalk walk = new TreasureWalk();
        walk.append(0x77616c6b, 0x20332034, 0x3b206d61, 0x726b2061, 0x20322033);
        walk.append(0x3b202020, 0, 0, 0, 0);
        Check.answers(0, "load of 'walk 3 4; mark a 2 3;'", () -> walk.load(24));
        Check.answers(3, "its width", () -> walk.state(0));
        Check.answers(4, "its height", () -> walk.state(1));
        walk.append(0x77616c6b, 0x20332034, 0x3b8080ff, -1, -1);
        Check.answers(-2, "load with bytes from 128", () -> walk.load(20));
        Check.answers(9, "the first of them", () -> walk.errorOffset());
    }

    private static void loadTakesLengthsOfTheBuffer() {
        TreasureWalk walk = new TreasureWalk();
        Check.illegal("load(-1)", () -> walk.load(-1));
        Check.illegal("load(MIN)", () -> walk.load(Integer.MIN_VALUE));
        Check.append(walk, "walk 2 3;walk");
        Check.illegal("load(21)", () -> walk.load(21));
        Check.illegal("load(MAX)", () -> walk.load(Integer.MAX_VALUE));
        Check.answers(0, "load reads the first bytes alone", () -> walk.load(9));
        Check.illegal("the buffer is empty then", () -> walk.load(1));
        Check.answers(-2, "an empty text", () -> walk.load(0));
        Check.answers(0, "its error", () -> walk.errorOffset());
        Check.append(walk, "?");
        walk.load(1);
        Check.illegal("the buffer is empty behind an error too", () -> walk.load(1));
    }

    private static void loadReplacesAllData() {
        TreasureWalk walk = Check.loaded("walk 4 3;water 0 0 1 0;mark a 3 2;mark h 2 0;"
                + "bend 0 0 3 2 left 1;team 1 1;clue a or h;clue h go 1 s;");
        int[] due = {4, 3, 2, 1, 2, 2, 0, 0, 0, 0, 5, 0, 0};
        Check.states("load", walk, due);
        walk.use(0, false);
        walk.hide(0);
        walk.dig();
        walk.moveTo(3, 2);
        Check.answers(0, "load again", () -> Check.load(walk, "walk 3 2;water 0 0 0 1;"));
        int[] then = {3, 2, 0, 0, 0, 0, 4, 4, 0, 1, 1, 0, 0};
        Check.states("load again", walk, then);
    }

    private static void loadForgetsOldClues() {
        TreasureWalk walk = Check.loaded("walk 9 9;water 0 8 8 8;mark a 0 0;mark b 3 3;bend 0 0 8 8 left 2;"
                + "clue a or b go 1 e end n;clue b end s;");
        Check.load(walk, "walk 9 9;mark b 4 4;clue b;clue b go 2 n;");
        Check.answers(1, "the starts of the new clue", () -> walk.reached(0, 0));
        Check.illegal("the legs of the new clue", () -> walk.reached(0, 1));
        Check.answers(true, "where it ends", () -> walk.ends(1, 4, 2));
        Check.answers(2, "a leg of the new clue", () -> walk.walk(1, 4, 2, 0));
        Check.answers(81, "cells without clues", () -> {
            walk.use(0, false);
            return walk.use(1, false);
        });
    }

    private static void loadReadsTokensFreely() {
        Check.good(0, "walk3 4;");
        Check.good(0, "   walk   3   4   ;   ");
        Check.good(0, "walk 0000000000000000000000000000000000020 00000000001;");
        Check.good(1, "walk9 9;mark a1 1;mark b2 2;clue a or b go3e give2 to b se end n;");
        Check.good(1, "walk 1 1;mark e 0 0;clue e to e e;");
        Check.good(0, "walk 5 5;water 0 0 1 1;water 0 0 1 1;");
        Check.good(1, MARKED + "clue a go 0 n give 0 go 30 ne give 5 go 1 e go 1 se go 1 s go 1 sw end w end nw;");
        Check.good(0, "walk 5 5;mark a 0 0;mark b 0 0;mark c 0 0;mark d 0 0;mark e 0 0;mark f 0 0;"
                + "mark g 0 0;mark h 0 0;");
        Check.good(4, MARKED + "clue a;clue a;clue a;clue a;");
    }

    private static void syntaxErrors() {
        Check.bad(-2, 4, "walk");
        Check.bad(-2, 7, "walk   ");
        Check.bad(-2, 0, "wal 1 1;");
        Check.bad(-2, 0, "walkk 1 1;");
        Check.bad(-2, 0, "walkz 1 1;");
        Check.bad(-2, 4, "walk{1 1;");
        Check.bad(-2, 4, "walk`1 1;");
        Check.bad(-2, 0, "Walk 1 1;");
        Check.bad(-2, 4, "walk\t1 1;");
        Check.bad(-2, 5, "walk -1 1;");
        Check.bad(-2, 8, "walk 1 1");
        Check.bad(-2, 9, "walk 1 1 1;");
        Check.bad(-2, 9, "walk 1 1;;");
        Check.bad(-2, 10, "walk 1 1; lake 0 0 0 0;");
        Check.bad(-2, 9, "walk 1 1;1");
        Check.bad(-2, 8, "walk 1 1/;");
        Check.bad(-2, 8, "walk 1 1:;");
        Check.badAt(-2, ";", "walk 5 5;water 0 0 1;");
        Check.badAt(-2, "5", "walk 5 5;water 0 0 1 1 5;");
        Check.badAt(-2, "up", "walk 5 5;bend 0 0 1 1 up 1;");
        Check.badAt(-2, "lefty", "walk 5 5;bend 0 0 1 1 lefty 1;");
        Check.badAt(-2, ";", "walk 5 5;bend 0 0 1 1 left;");
        Check.badAt(-2, "i", "walk 5 5;mark i 0 0;");
        Check.badAt(-2, "aa", "walk 5 5;mark aa 0 0;");
        Check.badAt(-2, "0 0", "walk 5 5;mark 0 0;");
        Check.badAt(-2, "team", "walk 5 5;team 0 0;team 1 1;");
        Check.badAt(-2, "or", MARKED + "clue or a;");
        Check.badAt(-2, ";", MARKED + "clue a or;");
        Check.badAt(-2, "a;", MARKED + "clue a a;");
        Check.badAt(-2, "or a", MARKED + "clue a end e or a;");
        Check.badAt(-2, "e;", MARKED + "clue a go e;");
        Check.badAt(-2, "x", MARKED + "clue a go 1 x;");
        Check.badAt(-2, "nn", MARKED + "clue a end nn;");
        Check.badAt(-2, "end;", MARKED + "clue a end end;");
        Check.badAt(-2, "give", MARKED + "clue a to a e give 1;");
        Check.badAt(-2, "give 2", MARKED + "clue a go 1 e give 1 give 2;");
        Check.badAt(-2, ";", MARKED + "clue a go 1 e give;");
        Check.badAt(-2, "goe", MARKED + "clue a goe;");
        Check.badAt(-2, "1", MARKED + "clue a to 1 e;");
    }

    private static void rangeErrors() {
        Check.bad(-3, 5, "walk 0 1;");
        Check.bad(-3, 5, "walk 21 1;");
        Check.bad(-3, 7, "walk 1 0;");
        Check.bad(-3, 7, "walk 1 21;");
        Check.bad(-3, 5, "walk 4294967297 1;");
        Check.bad(-3, 5, "walk 18446744073709551617 1;");
        Check.bad(-3, 7, "walk 1 0000000000000000000000000000021");
        Check.badAt(-3, "4 0 4", "walk 4 5;water 4 0 4 0;");
        Check.badAt(-3, "5 0 5", "walk 4 5;water 0 5 0 5;");
        Check.badAt(-3, "4 0;", "walk 4 5;water 0 0 4 0;");
        Check.badAt(-3, "5;", "walk 4 5;water 0 0 0 5;");
        Check.badAt(-3, "1 2;", "walk 4 5;water 2 2 1 2;");
        Check.badAt(-3, "1 left", "walk 4 5;bend 2 2 2 1 left 1;");
        Check.badAt(-3, "0;", "walk 4 5;bend 0 0 0 0 left 0;");
        Check.badAt(-3, "4;", "walk 4 5;bend 0 0 0 0 right 4;");
        Check.badAt(-3, "4 0", "walk 4 5;mark a 4 0;");
        Check.badAt(-3, "5;", "walk 4 5;mark a 0 5;");
        Check.badAt(-3, "4 0", "walk 4 5;team 4 0;");
        Check.badAt(-3, "5;", "walk 4 5;team 0 5;");
        Check.badAt(-3, "31", MARKED + "clue a go 31 e;");
        Check.badAt(-3, "6", MARKED + "clue a go 30 e give 6;");
    }

    private static void markErrors() {
        Check.badAt(-4, "a 1", MARKED + "mark a 1 1;");
        Check.badAt(-4, "a;", MARKED + "clue a or a;");
        Check.badAt(-4, "a;", MARKED + "mark b 0 0;clue a or b or a;");
        Check.badAt(-5, "b", MARKED + "clue b;");
        Check.badAt(-5, "b", MARKED + "clue a or b;");
        Check.badAt(-5, "b", MARKED + "clue a to b e;");
        Check.bad(-5, 25, MARKED + "clue b;mark b 0 0;");
        Check.bad(-5, 14, "walk 5 5;clue a or a;");
        Check.good(2, MARKED + "clue a to a e to a e;clue a;");
    }

    private static void countErrors() {
        StringBuilder bends = new StringBuilder("walk 5 5;");
        for (int i = 0; i < 8; i++) {
            bends.append("bend 0 0 0 0 left 1;");
        }
        Check.good(0, bends.toString());
        Check.bad(-6, bends.length(), bends + "bend?");
        Check.bad(-2, bends.length(), bends + "bended 0 0 0 0 left 1;");
        String clues = MARKED + "clue a;clue a;clue a;clue a;";
        Check.bad(-6, clues.length() + 1, clues + " clue b;");
        StringBuilder legs = new StringBuilder(MARKED + "clue a");
        for (int i = 0; i < 8; i++) {
            legs.append(" end e");
        }
        Check.good(1, legs + ";");
        Check.bad(-6, legs.length() + 1, legs + " go 99 x;");
        Check.bad(-6, legs.length() + 1, legs + " to b;");
        Check.bad(-6, legs.length() + 1, legs + " end");
        Check.bad(-2, legs.length() + 1, legs + " gone");
    }

    private static void wetErrors() {
        String lake = "walk 5 5;water 1 1 3 3;";
        Check.badAt(-7, "1 1;", lake + "mark a 1 1;");
        Check.badAt(-7, "3 3;", lake + "mark a 3 3;");
        Check.badAt(-7, "2 2;", lake + "team 2 2;");
        Check.good(0, lake + "mark a 4 3;team 0 1;");
        Check.badAt(-7, "0 0 0 4", "walk 5 5;mark h 0 4;water 0 0 0 4;");
        Check.badAt(-7, "0 0 0 4", "walk 5 5;team 0 0;water 0 0 0 4;");
        Check.good(0, "walk 5 5;mark a 1 1;team 3 3;water 0 0 4 0;water 2 0 2 4;water 0 2 4 2;");
        Check.badAt(-7, ";", "walk 5 5;water 0 0 4 4;");
        Check.badAt(-7, ";", "walk 5 5;water 0 0 4 3;water 0 4 3 4;water 4 4 4 4 ;");
        Check.good(0, "walk 5 5;water 0 0 4 3;water 0 4 3 4;");
    }

    private static void firstErrorCounts() {
        Check.badAt(-3, "9;", "walk 5 5;water 0 0 0 0;mark a 0 9;");
        Check.badAt(-7, "0 0;", "walk 5 5;water 0 0 0 0;mark a 0 0;");
        Check.badAt(-7, "0 0?", "walk 5 5;water 0 0 0 0;mark a 0 0?");
        Check.badAt(-3, "9?", "walk 5 5;mark a 0 0;water 0 0 0 9?");
        Check.badAt(-7, "0 0 1 1?", "walk 5 5;mark a 0 0;water 0 0 1 1?");
        Check.badAt(-7, "0 0 4 4;", "walk 5 5;mark a 0 0;water 0 0 4 4;");
        Check.badAt(-2, "?", "walk 5 5;water 0 0 4 4?");
        Check.badAt(-4, "a 9", MARKED + "mark a 9 9;");
        Check.bad(-2, 18, "walk 5 5;team 0 0;team 9 9;");
    }

    private static void errorLeavesData() {
        TreasureWalk walk = Check.loaded("walk 3 3;mark a 1 1;team 2 2;clue a;");
        walk.moveTo(0, 0);
        long before = walk.checksum();
        Check.answers(-5, "an error late in the text",
                () -> Check.load(walk, "walk 9 9;mark b 1 1;bend 0 0 8 8 left 1;water 2 2 2 2;clue a;"));
        Check.answers(before, "it leaves the data", () -> walk.checksum());
        Check.answers(1, "it is no change", () -> walk.undo());
        Check.answers(8, "the change ahead of it is undone", () -> walk.state(10));
    }

    private static void errorOffsetIsOfTheLatestLoad() {
        TreasureWalk walk = new TreasureWalk();
        Check.load(walk, "walk 5 5;x");
        Check.answers(9, "errorOffset", () -> walk.errorOffset());
        Check.illegal("load that throws", () -> walk.load(-1));
        Check.answers(9, "errorOffset behind it", () -> walk.errorOffset());
        Check.load(walk, "walk 5 5;");
        Check.answers(-1, "errorOffset without an error", () -> walk.errorOffset());
        Check.load(walk, "walk 5 ?");
        Check.answers(7, "errorOffset", () -> walk.errorOffset());
        walk.undo();
        Check.answers(7, "errorOffset behind undo", () -> walk.errorOffset());
    }
}
