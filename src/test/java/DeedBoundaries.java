import java.math.BigInteger;

/** The boundary cases of promises 19 to 25: moveTo, dig, use, hide, turn, undo and checksum. */
final class DeedBoundaries {
    private DeedBoundaries() {
    }

    static void run() {
        moves();
        movesThatAreNone();
        movesToNoCell();
        digs();
        digsBesideTheChest();
        uses();
        usesOfNoClue();
        placesOfTheChest();
        chestsInPlaceOfOthers();
        chestsWithoutACell();
        numbersOfHide();
        numbersThatHideDoesNotTake();
        turns();
        turnsOfNoBend();
        turnsThatAreNone();
        undoOfEachKind();
        undoLeavesTheBuffer();
        undoWithoutAChange();
        checksums();
        greatChecksums();
        checksumsOfClues();
    }

    private static void moves() {
        Check.sentence("Returns the paces; -1 if there is no way, and nothing is done then.");
        TreasureWalk walk = Check.loaded("walk 20 20;water 10 0 10 18;bend 0 0 19 19 left 3;");
        Check.answers(0, "to where the team is", () -> walk.moveTo(0, 0));
        Check.answers(9, "beside the water", () -> walk.moveTo(9, 0));
        Check.answers(38, "round the water", () -> walk.moveTo(11, 0));
        Check.answers(19, "down the map", () -> walk.moveTo(11, 19));
        Check.answers(379 + 12, "its cell", () -> walk.state(10));
        Check.answers(66, "its paces", () -> walk.state(11));
    }

    private static void movesThatAreNone() {
        Check.sentence("-1 if there is no way, and nothing is done then.");
        TreasureWalk walk = Check.loaded("walk 5 2;water 2 0 2 1;team 1 1;");
        walk.moveTo(0, 0);
        long sum = walk.checksum();
        for (int cell = 0; cell < 10; cell++) {
            int x = cell % 5;
            int y = cell / 5;
            if (x >= 2) {
                Check.answers(-1, "moveTo(" + x + ", " + y + ")", () -> walk.moveTo(x, y));
                Check.answers(sum, "the data behind it", () -> walk.checksum());
            }
        }
        Check.answers(1, "undo of the move ahead of them", () -> walk.undo());
        Check.answers(6, "the team then", () -> walk.state(10));
    }

    private static void movesToNoCell() {
        Check.sentence("Throws `IndexOutOfBoundsException` if there is no such cell");
        TreasureWalk walk = Check.loaded("walk 5 2;");
        Check.outside("moveTo(5, 0)", () -> walk.moveTo(5, 0));
        Check.outside("moveTo(-1, 1)", () -> walk.moveTo(-1, 1));
        Check.outside("moveTo(0, 2)", () -> walk.moveTo(0, 2));
        Check.outside("moveTo(4, -1)", () -> walk.moveTo(4, -1));
        Check.answers(0, "they are no changes", () -> walk.undo());
    }

    private static void digs() {
        Check.sentence("Digs on the cell of the team.");
        TreasureWalk walk = Check.loaded("walk 3 3;team 1 1;");
        walk.dig();
        Check.answers(4, "the team's cell", () -> walk.cell(1, 1));
        Check.answers(1, "cells that are dug", () -> walk.state(8));
        Check.answers(3, "a cell beside it", () -> walk.cell(1, 0));
        Check.answers(4, "the team stays", () -> walk.state(10));
    }

    private static void digsBesideTheChest() {
        Check.sentence("@return 0 if it was dug before, 1 if nothing is found, 2 if the chest is found");
        TreasureWalk walk = Check.loaded("walk 3 1;mark a 0 0;mark b 2 0;clue a;clue b;");
        Check.answers(1, "no chest", () -> walk.dig());
        Check.answers(0, "dug before", () -> walk.dig());
        walk.use(0, false);
        walk.hide(0);
        walk.moveTo(1, 0);
        Check.answers(1, "the chest is beside it", () -> walk.dig());
        Check.answers(1, "it is hidden still", () -> walk.state(12));
        walk.use(0, true);
        walk.use(1, false);
        walk.moveTo(2, 0);
        Check.answers(2, "the chest, though the cell is no candidate", () -> walk.dig());
        Check.answers(2, "it was found", () -> walk.state(12));
        Check.answers(0, "dug before", () -> walk.dig());
        walk.undo();
        walk.undo();
        Check.answers(1, "it is hidden again", () -> walk.state(12));
        Check.answers(2, "and found again", () -> walk.dig());
    }

    private static void uses() {
        Check.sentence("Returns the number of cells that are left then.");
        TreasureWalk walk = Check.loaded("walk 6 1;water 5 0 5 0;mark a 0 0;mark b 4 0;clue a go 1 e give 1;"
                + "clue a go 2 e give 1;clue b;clue b or a go 0 e give 5;");
        Check.answers(0, "none is left", () -> walk.use(3, true));
        Check.answers(2, "use(2, false)", () -> walk.use(2, false));
        Check.answers(3, "use(0, false)", () -> walk.use(0, false));
        Check.answers(5, "use(1, false)", () -> walk.use(1, false));
        Check.answers(5, "use(3, false)", () -> walk.use(3, false));
        Check.answers(5, "once more", () -> walk.use(3, false));
        walk.dig();
        Check.answers(2, "one of three is dug", () -> walk.use(0, true));
        Check.answers(2, "once more", () -> walk.use(0, true));
        Check.answers(0, "no cell in common", () -> walk.use(2, true));
        Check.answers(2, "clues in use", () -> walk.state(5));
        Check.answers(1, "use(0, false)", () -> walk.use(0, false));
        TreasureWalk dug = Check.loaded("walk 1 1;mark a 0 0;clue a;");
        dug.dig();
        Check.answers(0, "all are dug", () -> dug.use(0, false));
    }

    private static void usesOfNoClue() {
        Check.sentence("Throws `IndexOutOfBoundsException` if there is no such clue");
        TreasureWalk walk = Check.loaded("walk 2 1;mark a 0 0;clue a;clue a;clue a;clue a;");
        for (int wrong : new int[] {-1, 4, 5, Integer.MIN_VALUE, Integer.MAX_VALUE}) {
            Check.outside("use(" + wrong + ", false)", () -> walk.use(wrong, false));
            Check.outside("use(" + wrong + ", true)", () -> walk.use(wrong, true));
        }
        Check.answers(4, "all are in use still", () -> walk.state(5));
        Check.answers(1, "use(3, false)", () -> walk.use(3, false));
        Check.answers(3, "the last one is out of use", () -> walk.state(5));
        Check.answers(1, "there are two changes", () -> walk.undo());
    }

    /** Where the chest is: the x at which dig finds it; undo takes all that back. */
    private static int foundAt(TreasureWalk walk, int width) {
        int found = -1;
        for (int x = 0; x < width; x++) {
            if (walk.moveTo(x, 0) >= 0) {
                found = walk.dig() == 2 ? x : found;
                walk.undo();
                walk.undo();
            }
        }
        return found;
    }

    private static void placesOfTheChest() {
        Check.sentence("on the cell with the place n modulo the number of cells that are left, from 0, among these, "
                + "in order.");
        TreasureWalk walk = Check.loaded("walk 8 1;mark a 1 0;mark b 3 0;mark c 4 0;mark d 7 0;clue d or b or a or c;");
        int[] places = {1, 3, 4, 7};
        for (int n : new int[] {0, 1, 2, 3, 4, 5, 7, 8, 9998, 9999}) {
            Check.answers(4, "hide(" + n + ")", () -> walk.hide(n));
            Check.answers(places[n % 4], "where hide(" + n + ") hides", () -> foundAt(walk, 8));
        }
        TreasureWalk three = Check.loaded("walk 4 1;mark a 0 0;clue a go 1 e give 1;");
        three.moveTo(1, 0);
        three.dig();
        Check.answers(2, "one of three is dug", () -> three.hide(1));
        Check.answers(2, "hide(1)", () -> foundAt(three, 4));
        three.hide(2);
        Check.answers(0, "hide(2)", () -> foundAt(three, 4));
        TreasureWalk one = new TreasureWalk();
        Check.answers(1, "one cell", () -> one.hide(9999));
        Check.answers(2, "dig", () -> one.dig());
        TreasureWalk wide = Check.loaded("walk 20 20;team 19 19;");
        Check.answers(400, "hide(9999)", () -> wide.hide(9999));
        Check.answers(2, "on the last of 400 cells", () -> wide.dig());
        wide.undo();
        wide.hide(9998);
        Check.answers(1, "not on the last one", () -> wide.dig());
        wide.moveTo(18, 19);
        Check.answers(2, "but ahead of it", () -> wide.dig());
    }

    private static void chestsInPlaceOfOthers() {
        Check.sentence("Hides the chest, in place of one that is hidden or was found");
        TreasureWalk walk = Check.loaded("walk 3 1;");
        walk.hide(0);
        walk.hide(2);
        Check.answers(1, "the chest is hidden", () -> walk.state(12));
        Check.answers(1, "it is not where it was", () -> walk.dig());
        walk.moveTo(2, 0);
        Check.answers(2, "it is found", () -> walk.dig());
        Check.answers(1, "hide behind that: one cell is left", () -> walk.hide(5));
        Check.answers(1, "it is hidden again", () -> walk.state(12));
        Check.answers(true, "on a cell that is left", () -> walk.chestIsLeft());
        walk.moveTo(1, 0);
        Check.answers(2, "on the only one", () -> walk.dig());
    }

    private static void chestsWithoutACell() {
        Check.sentence("If none is left, there is no chest then.");
        TreasureWalk walk = Check.loaded("walk 2 1;mark a 0 0;mark b 1 0;clue a;clue b;");
        Check.answers(0, "no candidate", () -> walk.hide(0));
        Check.answers(0, "no chest", () -> walk.state(12));
        walk.use(1, false);
        Check.answers(1, "hide(0)", () -> walk.hide(0));
        walk.use(1, true);
        Check.answers(1, "it is hidden", () -> walk.state(12));
        Check.answers(0, "hide(9999)", () -> walk.hide(9999));
        Check.answers(0, "it is no more", () -> walk.state(12));
        Check.answers(1, "nothing is found", () -> walk.dig());
        TreasureWalk found = new TreasureWalk();
        found.hide(0);
        found.dig();
        Check.answers(2, "a chest that was found", () -> found.state(12));
        Check.answers(0, "hide where all is dug", () -> found.hide(0));
        Check.answers(0, "it is no more", () -> found.state(12));
        found.undo();
        Check.answers(2, "undo", () -> found.state(12));
    }

    private static void numbersOfHide() {
        Check.sentence("Returns the number of cells that are left.");
        TreasureWalk walk = Check.loaded("walk 3 1;");
        for (int left = 3; left >= 0; left--) {
            int due = left;
            Check.answers(due, "hide with " + left, () -> walk.hide(0));
            if (left > 0) {
                walk.moveTo(left - 1, 0);
                walk.dig();
            }
        }
        Check.answers(400, "hide on all cells", () -> Check.loaded("walk 20 20;").hide(0));
    }

    private static void numbersThatHideDoesNotTake() {
        Check.sentence("Throws `IllegalArgumentException` if n is out of range");
        Check.sentence("`n`: 0 to 9999");
        TreasureWalk walk = Check.loaded("walk 2 1;");
        for (int wrong : new int[] {-1, 10000, -9999, 10001, Integer.MIN_VALUE, Integer.MAX_VALUE}) {
            Check.illegal("hide(" + wrong + ")", () -> walk.hide(wrong));
        }
        Check.answers(0, "no chest", () -> walk.state(12));
        Check.answers(2, "hide(0)", () -> walk.hide(0));
        Check.answers(2, "hide(9999)", () -> walk.hide(9999));
        Check.illegal("hide(-1)", () -> walk.hide(-1));
        Check.answers(1, "the chest stays", () -> walk.state(12));
        Check.answers(2, "three changes", () -> walk.undo());
        walk.dig();
        walk.moveTo(1, 0);
        walk.dig();
        Check.illegal("hide(10000) where none is left", () -> walk.hide(10000));
    }

    private static void turns() {
        Check.sentence("Returns the previous turn.");
        Check.sentence("`turn`: -3 to 3");
        TreasureWalk walk = Check.loaded("walk 3 3;mark a 1 1;bend 1 1 1 1 left 3;bend 0 0 2 2 right 2;clue a go 1 n;");
        int[] ring = {1, 2, 5, 8, 7, 6, 3, 0};
        int previous = -3;
        for (int turn : new int[] {-3, -2, -1, 0, 1, 2, 3, 0, -3, 3}) {
            int due = previous;
            Check.answers(due, "turn(0, " + turn + ")", () -> walk.turn(0, turn));
            int cell = ring[Math.floorMod(turn + 2, 8)];
            Check.answers(cell, "pace with turn " + turn, () -> walk.pace(1, 1, 0));
            Check.answers(true, "region with turn " + turn, () -> walk.ends(0, cell % 3, cell / 3));
            Check.answers(cell, "nearest with turn " + turn, () -> walk.nearest());
            previous = turn;
        }
        Check.answers(2, "turn(1, -3)", () -> walk.turn(1, -3));
        Check.answers(-3, "turn(1, 3)", () -> walk.turn(1, 3));
        Check.answers(3, "turn(0, 0)", () -> walk.turn(0, 0));
    }

    private static void turnsOfNoBend() {
        Check.sentence("Throws `IndexOutOfBoundsException` if there is no such bend");
        TreasureWalk walk = Check.loaded("walk 2 1;bend 0 0 1 0 left 1;bend 0 0 1 0 right 1;");
        for (int wrong : new int[] {-1, 2, 7, 8, Integer.MIN_VALUE, Integer.MAX_VALUE}) {
            Check.outside("turn(" + wrong + ", 0)", () -> walk.turn(wrong, 0));
            Check.outside("turn(" + wrong + ", 4)", () -> walk.turn(wrong, 4));
        }
        Check.outside("turn of a new object", () -> new TreasureWalk().turn(0, 0));
        Check.answers(-1, "turn(0, 0)", () -> walk.turn(0, 0));
        Check.answers(1, "turn(1, 0)", () -> walk.turn(1, 0));
    }

    private static void turnsThatAreNone() {
        Check.sentence("Throws `IllegalArgumentException` if turn is out of range");
        TreasureWalk walk = Check.loaded("walk 2 1;bend 0 0 1 0 left 2;");
        for (int wrong : new int[] {-4, 4, -5, 5, 8, -8, Integer.MIN_VALUE, Integer.MAX_VALUE}) {
            Check.illegal("turn(0, " + wrong + ")", () -> walk.turn(0, wrong));
        }
        Check.answers(-2, "the turn as it was", () -> walk.turn(0, 3));
        Check.answers(1, "there are two changes", () -> walk.undo());
    }

    private static void undoOfEachKind() {
        Check.sentence("Undoes the latest change that is not final and has not been undone.");
        TreasureWalk walk = Check.loaded("walk 4 1;mark a 0 0;bend 0 0 0 0 right 1;clue a go 1 e give 1;clue a;");
        walk.use(1, false);
        Check.answers(-3, "turn", () -> {
            walk.turn(0, -3);
            int before = walk.turn(0, 2);
            walk.undo();
            return before;
        });
        Check.answers(-3, "the turn behind undo", () -> walk.turn(0, 0));
        walk.hide(0);
        walk.hide(1);
        walk.undo();
        Check.answers(2, "the chest behind undo", () -> walk.dig());
        walk.undo();
        Check.answers(1, "hidden behind undo", () -> walk.state(12));
        Check.answers(0, "nothing is dug behind undo", () -> walk.state(8));
        walk.use(0, false);
        walk.undo();
        Check.answers(1, "a clue in use behind undo", () -> walk.state(5));
        walk.moveTo(3, 0);
        walk.undo();
        Check.answers(0, "the team behind undo", () -> walk.state(10));
        Check.answers(0, "its paces behind undo", () -> walk.state(11));
        Check.load(walk, "walk 2 2;");
        walk.undo();
        Check.answers(4, "the map behind undo", () -> walk.state(0));
        Check.answers(3, "a region behind undo", () -> walk.reached(0, 1));
    }

    private static void undoLeavesTheBuffer() {
        Check.sentence("The input buffer and the error offset are not affected.");
        TreasureWalk walk = Check.loaded("walk 4 1;");
        walk.dig();
        Check.load(walk, "walk 4 ?");
        Check.append(walk, "walk 2 2;");
        Check.answers(1, "undo of dig", () -> walk.undo());
        Check.answers(7, "the error offset", () -> walk.errorOffset());
        Check.answers(0, "undo of load", () -> walk.undo());
        Check.answers(7, "the error offset", () -> walk.errorOffset());
        Check.answers(-1, "undo of nothing", () -> walk.undo());
        Check.answers(40, "the buffer's length", () -> walk.append(0x20202020, 0x20202020, 0x20202020, 0x20202020,
                0x20202020));
        Check.answers(0, "the buffer's text", () -> walk.load(40));
        Check.answers(2, "its map", () -> walk.state(0));
        Check.answers(-1, "the error offset of a text without an error", () -> walk.errorOffset());
        walk.undo();
        Check.answers(-1, "it stays behind undo", () -> walk.errorOffset());
        Check.answers(20, "the buffer stays empty behind undo", () -> walk.append(0, 0, 0, 0, 0));
    }

    private static void undoWithoutAChange() {
        Check.sentence("Returns the number of changes that can still be undone; -1 if there was none to undo, "
                + "and nothing changes then.");
        TreasureWalk fresh = new TreasureWalk();
        Check.answers(-1, "a new object", () -> fresh.undo());
        Check.answers(-1, "and again", () -> fresh.undo());
        Check.states("nothing changes", fresh, 1, 1, 0, 0, 0, 0, 1, 1, 0, 1, 0, 0, 0);
        TreasureWalk walk = Check.loaded("walk 20 1;");
        for (int i = 1; i <= 12; i++) {
            walk.moveTo(i, 0);
        }
        for (int left = 7; left >= 0; left--) {
            int due = left;
            Check.answers(due, "undo", () -> walk.undo());
            Check.answers(due + 4, "the team", () -> walk.state(10));
        }
        long sum = walk.checksum();
        Check.answers(-1, "no more", () -> walk.undo());
        Check.answers(-1, "and again", () -> walk.undo());
        Check.answers(sum, "nothing changes", () -> walk.checksum());
        walk.dig();
        Check.answers(0, "a change behind that", () -> walk.undo());
        Check.answers(-1, "none behind it", () -> walk.undo());
    }

    /** The numbers of a checksum are asked from the object, and joined without a bound to their sum. */
    private static long sumOf(TreasureWalk walk) {
        BigInteger sum = BigInteger.ZERO;
        for (int what = 0; what <= 12; what++) {
            sum = join(sum, walk.state(what));
        }
        int width = walk.state(0);
        int cells = width * walk.state(1);
        for (int cell = 0; cell < cells; cell++) {
            sum = join(sum, walk.cell(cell % width, cell / width));
        }
        return sum.longValue();
    }

    private static BigInteger join(BigInteger sum, int number) {
        return sum.multiply(BigInteger.valueOf(31)).add(BigInteger.valueOf(number));
    }

    private static void checksums() {
        Check.sentence("It starts at 0; each number n in the following order replaces it by 31 * checksum + n, "
                + "wrapping around on overflow of a long:");
        BigInteger due = BigInteger.ZERO;
        for (int number : new int[] {1, 1, 0, 0, 0, 0, 1, 1, 0, 1, 0, 0, 0, 3}) {
            due = join(due, number);
        }
        long wrapped = due.longValue();
        Check.answers(true, "it overflows", () -> wrapped < 0 || wrapped % 31 != 3);
        Check.answers(wrapped, "a new object", () -> new TreasureWalk().checksum());
        for (String size : new String[] {"1 1", "1 2", "2 1", "3 3", "20 1", "1 20", "7 5"}) {
            TreasureWalk walk = Check.loaded("walk " + size + ";");
            long sum = sumOf(walk);
            Check.answers(sum, "walk " + size, () -> walk.checksum());
        }
    }

    private static void greatChecksums() {
        Check.sentence("wrapping around on overflow of a long:");
        TreasureWalk walk = Check.loaded("walk 20 20;water 3 3 5 9;team 19 19;");
        walk.dig();
        walk.moveTo(0, 19);
        walk.hide(77);
        long sum = sumOf(walk);
        Check.answers(sum, "the greatest map", () -> walk.checksum());
    }

    private static void checksumsOfClues() {
        Check.sentence("state(0) to state(12); for each cell, in order, what cell(int, int) tells of it; "
                + "for each clue 1 if it is in use, otherwise 0, and reached(int, int) for 0, 1 and so on "
                + "up to all of its legs.");
        TreasureWalk walk = Check.loaded("walk 5 4;water 2 1 3 1;mark a 0 0;mark b 4 3;bend 0 0 1 3 left 1;"
                + "clue a;clue b or a" + " go 1 n give 2".repeat(8) + ";clue a go 2 e give 2 end s;clue b to b n;");
        int[] legs = {0, 8, 2, 1};
        for (int used = 15; used >= 0; used -= 3) {
            for (int clue = 0; clue < 4; clue++) {
                walk.use(clue, (used >> clue & 1) == 1);
            }
            BigInteger sum = BigInteger.valueOf(sumOf(walk));
            for (int clue = 0; clue < 4; clue++) {
                sum = join(sum, used >> clue & 1);
                for (int count = 0; count <= legs[clue]; count++) {
                    sum = join(sum, walk.reached(clue, count));
                }
            }
            long due = sum.longValue();
            Check.answers(due, "clues " + used, () -> walk.checksum());
        }
    }
}
