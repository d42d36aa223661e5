/** Promises 18 to 25: chestIsLeft, moveTo, dig, use, hide, turn, undo and checksum. */
public final class ChangeTests {
    private static final String MAP = "walk 4 2;mark a 0 0;mark b 0 1;team 3 1;clue a go 2 e give 1;"
            + "clue a or b end e;bend 3 0 3 0 right 2;";

    private ChangeTests() {
    }

    public static void main(String[] args) {
        chestIsLeftOrNot();
        moves();
        movesThatAreNone();
        digs();
        uses();
        hides();
        hideRange();
        turns();
        turnRange();
        undoOfHide();
        undoEachChange();
        undoEight();
        undoBehindUndo();
        undoOfLoads();
        noChanges();
        checksums();
        Check.finish();
    }

    private static void chestIsLeftOrNot() {
        TreasureWalk walk = Check.loaded("walk 4 1;mark a 1 0;mark b 2 0;clue a or b;clue a;");
        Check.answers(false, "no chest", () -> walk.chestIsLeft());
        walk.hide(0);
        Check.answers(true, "hidden on what is left", () -> walk.chestIsLeft());
        walk.use(1, false);
        walk.hide(1);
        Check.answers(true, "hidden on another", () -> walk.chestIsLeft());
        walk.use(1, true);
        Check.answers(false, "hidden on no candidate", () -> walk.chestIsLeft());
        walk.use(1, false);
        walk.moveTo(2, 0);
        walk.dig();
        Check.answers(false, "found", () -> walk.chestIsLeft());
        walk.undo();
        Check.answers(true, "not found", () -> walk.chestIsLeft());
    }

    private static void moves() {
        TreasureWalk walk = Check.loaded("walk 5 3;water 2 0 2 1;");
        Check.answers(4, "moveTo(4, 0)", () -> walk.moveTo(4, 0));
        Check.answers(4, "the team's cell", () -> walk.state(10));
        Check.answers(0, "to where it is", () -> walk.moveTo(4, 0));
        Check.answers(2, "moveTo(3, 2)", () -> walk.moveTo(3, 2));
        Check.answers(6, "paces in all", () -> walk.state(11));
        Check.answers(13, "the team's cell then", () -> walk.state(10));
        Check.answers(3, "undo", () -> walk.undo());
        Check.answers(4, "the team is back by a move", () -> walk.state(10));
        walk.undo();
        walk.undo();
        Check.answers(0, "the team is back by all moves", () -> walk.state(10));
        Check.answers(0, "so are its paces", () -> walk.state(11));
    }

    private static void movesThatAreNone() {
        TreasureWalk walk = Check.loaded("walk 5 3;water 2 0 2 2;");
        Check.answers(-1, "onto water", () -> walk.moveTo(2, 1));
        Check.answers(-1, "beyond water", () -> walk.moveTo(3, 1));
        Check.answers(0, "the team's cell", () -> walk.state(10));
        Check.answers(0, "its paces", () -> walk.state(11));
        Check.outside("moveTo(5, 0)", () -> walk.moveTo(5, 0));
        Check.outside("moveTo(0, 3)", () -> walk.moveTo(0, 3));
        Check.outside("moveTo(-1, 0)", () -> walk.moveTo(-1, 0));
        Check.outside("moveTo(0, -1)", () -> walk.moveTo(0, -1));
        Check.answers(0, "the load is the only change", () -> walk.undo());
    }

    private static void digs() {
        TreasureWalk walk = Check.loaded(MAP);
        Check.answers(1, "nothing is there", () -> walk.dig());
        Check.answers(0, "it was dug before", () -> walk.dig());
        walk.use(1, false);
        walk.hide(2);
        walk.use(1, true);
        Check.answers(1, "one more cell", () -> walk.moveTo(3, 0));
        Check.answers(2, "the chest is there", () -> walk.dig());
        Check.answers(2, "it is found", () -> walk.state(12));
        Check.answers(0, "it was dug before", () -> walk.dig());
        Check.answers(2, "it is found still", () -> walk.state(12));
        Check.answers(2, "cells that are dug", () -> walk.state(8));
        walk.hide(0);
        walk.moveTo(2, 0);
        Check.answers(1, "the chest is elsewhere", () -> walk.dig());
        Check.answers(0, "none is left for it", () -> walk.hide(0));
        TreasureWalk off = Check.loaded("walk 3 1;mark a 0 0;mark b 2 0;clue a;clue b;");
        off.use(1, false);
        off.hide(0);
        off.use(0, false);
        off.use(1, true);
        Check.answers(2, "a chest on no candidate is found too", () -> off.dig());
    }

    private static void uses() {
        TreasureWalk walk = Check.loaded(MAP);
        Check.answers(2, "both in use", () -> walk.state(5));
        Check.answers(3, "use(1, false)", () -> walk.use(1, false));
        Check.answers(3, "once more", () -> walk.use(1, false));
        Check.answers(1, "one in use", () -> walk.state(5));
        Check.answers(8, "use(0, false)", () -> walk.use(0, false));
        walk.dig();
        Check.answers(0, "use(1, true): all are dug", () -> walk.use(1, true));
        Check.answers(1, "candidates", () -> walk.state(6));
        Check.answers(7, "use(1, false): but one", () -> walk.use(1, false));
        Check.outside("use(-1, true)", () -> walk.use(-1, true));
        Check.outside("use(2, false)", () -> walk.use(2, false));
        Check.outside("use without clues", () -> new TreasureWalk().use(0, true));
    }

    private static void hides() {
        TreasureWalk walk = Check.loaded("walk 5 1;mark a 0 0;clue a go 2 e give 1;clue a;");
        walk.use(1, false);
        for (int n = 0; n <= 7; n++) {
            hidesAt(walk, n, 1 + n % 3, 3);
        }
        hidesAt(walk, 9999, 1, 3);
        walk.moveTo(2, 0);
        walk.dig();
        hidesAt(walk, 1, 3, 2);
        hidesAt(walk, 9998, 1, 2);
        walk.use(1, true);
        Check.answers(0, "hide where none is left", () -> walk.hide(3));
        Check.answers(0, "the chest is no more", () -> walk.state(12));
    }

    /** The chest must be found at a place in the row, and only there; the map stays as it is. */
    private static void hidesAt(TreasureWalk walk, int n, int x, int left) {
        Check.answers(left, "hide(" + n + ")", () -> walk.hide(n));
        Check.answers(1, "the chest is hidden by hide(" + n + ")", () -> walk.state(12));
        for (int at = 1; at <= 3; at++) {
            int place = at;
            if (walk.cell(place, 0) == 3) {
                walk.moveTo(place, 0);
                Check.answers(place == x ? 2 : 1, "dig at " + at + " behind hide(" + n + ")", () -> walk.dig());
                walk.undo();
                walk.undo();
            }
        }
    }

    private static void hideRange() {
        TreasureWalk walk = Check.loaded(MAP);
        Check.illegal("hide(-1)", () -> walk.hide(-1));
        Check.illegal("hide(10000)", () -> walk.hide(10000));
        Check.illegal("hide(MIN)", () -> walk.hide(Integer.MIN_VALUE));
        Check.answers(0, "no chest", () -> walk.state(12));
        Check.answers(0, "no change but load", () -> walk.undo());
    }

    private static void turns() {
        TreasureWalk walk = Check.loaded("walk 4 4;mark a 0 1;bend 1 0 1 3 left 3;bend 1 1 1 1 right 3;"
                + "clue a go 2 e;");
        Check.answers(true, "the turns are as much left as right", () -> walk.ends(0, 2, 1));
        Check.answers(-3, "turn(0, 2)", () -> walk.turn(0, 2));
        Check.answers(2, "turn(0, -1)", () -> walk.turn(0, -1));
        Check.answers(true, "two to the right", () -> walk.ends(0, 1, 2));
        Check.answers(10, "pace", () -> walk.pace(1, 2, 3));
        Check.answers(3, "turn(1, 0)", () -> walk.turn(1, 0));
        Check.answers(true, "one to the left", () -> walk.ends(0, 2, 0));
        Check.answers(3, "that is a candidate", () -> walk.cell(2, 0));
        Check.answers(0, "turn(1, 3)", () -> walk.turn(1, 3));
        Check.answers(3, "turn(1, -3)", () -> walk.turn(1, -3));
        Check.answers(true, "four to the left", () -> walk.ends(0, 0, 1));
        walk.undo();
        Check.answers(true, "two to the right again", () -> walk.ends(0, 1, 2));
        Check.answers(3, "the turn ahead of undo", () -> walk.turn(1, 3));
    }

    private static void turnRange() {
        TreasureWalk walk = Check.loaded(MAP);
        Check.outside("turn(-1, 0)", () -> walk.turn(-1, 0));
        Check.outside("turn(1, 0)", () -> walk.turn(1, 0));
        Check.outside("no bend is ahead of no turn", () -> walk.turn(1, 4));
        Check.illegal("turn(0, 4)", () -> walk.turn(0, 4));
        Check.illegal("turn(0, -4)", () -> walk.turn(0, -4));
        Check.answers(2, "turn(0, 3)", () -> walk.turn(0, 3));
    }

    private static void undoOfHide() {
        TreasureWalk walk = Check.loaded("walk 3 1;team 1 0;");
        walk.hide(1);
        walk.hide(2);
        walk.undo();
        Check.answers(2, "the chest is where it was", () -> walk.dig());
        walk.hide(0);
        walk.undo();
        Check.answers(2, "the chest is found as it was", () -> walk.state(12));
        walk.undo();
        walk.undo();
        Check.answers(0, "there is no chest as ahead of all", () -> walk.state(12));
        Check.answers(1, "nothing is found", () -> walk.dig());
    }

    private static void undoEachChange() {
        TreasureWalk walk = Check.loaded(MAP);
        long[] sums = new long[8];
        sums[0] = walk.checksum();
        walk.use(1, false);
        sums[1] = walk.checksum();
        walk.hide(4);
        sums[2] = walk.checksum();
        walk.moveTo(2, 0);
        sums[3] = walk.checksum();
        walk.dig();
        sums[4] = walk.checksum();
        walk.turn(0, -1);
        sums[5] = walk.checksum();
        walk.use(1, false);
        sums[6] = walk.checksum();
        walk.dig();
        sums[7] = walk.checksum();
        for (int left = 7; left > 0; left--) {
            int due = left;
            Check.answers(sums[left], "data with " + left + " changes", () -> walk.checksum());
            Check.answers(due, "undo", () -> walk.undo());
        }
        Check.answers(sums[0], "data behind load", () -> walk.checksum());
        Check.answers(0, "undo of load", () -> walk.undo());
        Check.answers(1, "the map ahead of load", () -> walk.state(0));
        Check.answers(0, "the team ahead of load", () -> walk.state(10));
        Check.answers(-1, "no more undo", () -> walk.undo());
        Check.answers(1, "nothing changes then", () -> walk.state(6));
    }

    private static void undoEight() {
        TreasureWalk walk = Check.loaded("walk 20 1;");
        for (int x = 1; x <= 12; x++) {
            walk.moveTo(x, 0);
        }
        for (int left = 7; left >= 0; left--) {
            Check.answers(left, "undo", () -> walk.undo());
        }
        Check.answers(4, "eight are undone", () -> walk.state(10));
        Check.answers(-1, "no more", () -> walk.undo());
        Check.answers(4, "nothing changes", () -> walk.state(10));
        walk.moveTo(9, 0);
        Check.answers(0, "a new change is undone", () -> walk.undo());
        Check.answers(4, "but that one", () -> walk.state(10));
    }

    private static void undoBehindUndo() {
        TreasureWalk walk = Check.loaded("walk 20 1;");
        for (int x = 1; x <= 9; x++) {
            walk.moveTo(x, 0);
        }
        walk.undo();
        walk.undo();
        Check.answers(7, "seven changes are left", () -> walk.state(10));
        walk.moveTo(15, 0);
        walk.moveTo(16, 0);
        for (int left = 7; left >= 0; left--) {
            Check.answers(left, "undo of old and new", () -> walk.undo());
        }
        Check.answers(1, "a final change stays", () -> walk.state(10));
        Check.answers(-1, "it cannot be undone", () -> walk.undo());
    }

    private static void undoOfLoads() {
        TreasureWalk walk = Check.loaded(MAP);
        walk.moveTo(0, 0);
        walk.dig();
        long before = walk.checksum();
        Check.load(walk, "walk 3 3;mark c 1 1;clue c go 1 n;clue c;");
        Check.answers(2, "its clues", () -> walk.state(4));
        Check.append(walk, "walk 9 9;");
        Check.answers(3, "undo of the load", () -> walk.undo());
        Check.answers(before, "the data ahead of it", () -> walk.checksum());
        Check.answers(2, "a walk ahead of it", () -> walk.walk(0, 2, 0, 0));
        Check.answers(3, "the paces ahead of it", () -> walk.state(11));
        Check.answers(0, "the buffer is not affected", () -> walk.load(9));
        Check.answers(9, "the map from it", () -> walk.state(1));
    }

    private static void noChanges() {
        TreasureWalk walk = Check.loaded(MAP);
        long before = walk.checksum();
        walk.append(1, 2, 3, 4, 5);
        walk.tour();
        walk.nearest();
        walk.distance(0, 0);
        walk.part(0, 0);
        walk.starts(0, 1, 0);
        walk.meanDistance();
        walk.chestIsLeft();
        Check.answers(-2, "load with an error", () -> walk.load(3));
        Check.answers(before, "no question changes data", () -> walk.checksum());
        Check.answers(0, "load is the only change", () -> walk.undo());
    }

    private static void checksums() {
        TreasureWalk walk = new TreasureWalk();
        Check.answers(sum(1, 1, 0, 0, 0, 0, 1, 1, 0, 1, 0, 0, 0, 3), "new", () -> walk.checksum());
        Check.load(walk, "walk 3 2;water 1 0 1 0;mark a 0 1;mark b 2 1;mark c 0 1;bend 0 0 0 0 left 1;"
                + "team 2 0;clue a go 1 e give 1 go 1 n;clue b or a;clue a or b or c end e;");
        Check.answers(sum(3, 2, 3, 1, 3, 3, 0, 0, 0, 0, 2, 0, 0, 1, 0, 1, 1, 1, 1,
                1, 1, 3, 2, 1, 2, 1, 2, 1), "loaded", () -> walk.checksum());
        walk.use(0, false);
        walk.moveTo(2, 1);
        walk.dig();
        walk.use(1, false);
        Check.answers(sum(3, 2, 3, 1, 3, 1, 1, 0, 1, 0, 5, 1, 0, 1, 0, 1, 1, 1, 4,
                0, 1, 3, 2, 0, 2, 1, 2, 1), "changed", () -> walk.checksum());
    }

    private static long sum(long... numbers) {
        long sum = 0;
        for (long number : numbers) {
            sum = sum * 31 + number;
        }
        return sum;
    }
}
