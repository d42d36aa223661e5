/** The boundary cases of promises 1 to 4: a new object, append, load and errorOffset. */
final class LoadBoundaries {
    private static final int MOST = 600;

    private LoadBoundaries() {
    }

    static void run() {
        newObject();
        bytesOfWords();
        lengthsUpToTheMost();
        appendThatIsRefused();
        firstBytesOfTheBuffer();
        allDataAreReplaced();
        bufferIsEmptyBehindLoad();
        errorsLeaveTheData();
        emptyTexts();
        answersOfLoad();
        lengthsThatAreNone();
        errorOffsets();
    }

    private static TreasureWalk filled(String text) {
        TreasureWalk walk = new TreasureWalk();
        Check.append(walk, text);
        return walk;
    }

    private static void newObject() {
        Check.sentence("Creates an object with a map of one cell, with an empty input buffer.");
        TreasureWalk walk = new TreasureWalk();
        Check.states("new", walk, 1, 1, 0, 0, 0, 0, 1, 1, 0, 1, 0, 0, 0);
        Check.answers(3, "its cell", () -> walk.cell(0, 0));
        Check.answers(0, "its distance", () -> walk.distance(0, 0));
        Check.answers(0, "nearest", () -> walk.nearest());
        Check.answers(0, "tour", () -> walk.tour());
        Check.answers(1, "part", () -> walk.part(0, 0));
        Check.answers(0.0, "meanDistance", () -> walk.meanDistance());
        Check.answers(false, "chestIsLeft", () -> walk.chestIsLeft());
        Check.answers(0, "why", () -> walk.why(0, 0));
        Check.answers(-1, "undo", () -> walk.undo());
        Check.answers(-1, "errorOffset", () -> walk.errorOffset());
        Check.illegal("load(1) of an empty buffer", () -> walk.load(1));
        Check.answers(20, "append to an empty buffer", () -> walk.append(0, 0, 0, 0, 0));
        TreasureWalk other = new TreasureWalk();
        Check.answers(20, "another object has a buffer of its own", () -> other.append(0, 0, 0, 0, 0));
    }

    /** Each of the 20 bytes of a call in its turn is the only one that the grammar does not allow. */
    private static void bytesOfWords() {
        Check.sentence("Appends 20 bytes to the input buffer: the 4 bytes of each argument, "
                + "the most significant byte first.");
        String text = "walk 12 13; team 1 2";
        for (int sign : new int[] {0, 1, 127, 128, 254, 255}) {
            for (int i = 0; i < 20; i++) {
                StringBuilder wrong = new StringBuilder(text + ";");
                wrong.setCharAt(i, (char) sign);
                Check.bad(-2, errorOfByte(i), wrong.toString());
            }
        }
        TreasureWalk walk = new TreasureWalk();
        walk.append(0x77616c6b, 0x20313220, 0x31333b20, 0x20202020, 0x20202020);
        Check.answers(0, "load of 'walk 12 13;'", () -> walk.load(20));
        Check.states("walk 12 13;", walk, 12, 13);
        TreasureWalk last = new TreasureWalk();
        last.append(0x20202020, 0x20202020, 0x7761, 0x6c6b2031, 0x2031203b);
        Check.answers(-2, "load of zeros ahead of 'walk 1 1;'", () -> last.load(20));
        Check.answers(8, "the first of them", () -> last.errorOffset());
        last.append(0x20202020, 0x20202020, 0x20207761, 0x6c6b2031, 0x2031203b);
        Check.answers(0, "load of '  walk 1 1 ;'", () -> last.load(20));
        last.append(-1, -1, -1, -1, -1);
        Check.answers(-2, "load of bytes 255", () -> last.load(20));
        Check.answers(0, "the first of them", () -> last.errorOffset());
        last.append(Integer.MIN_VALUE, 0, 0, 0, 0);
        Check.answers(-2, "load of a byte 128", () -> last.load(1));
    }

    /** A byte within a word makes that a word that is not due. */
    private static int errorOfByte(int index) {
        if (index <= 3) {
            return 0;
        }
        return index >= 12 && index <= 15 ? 12 : index;
    }

    private static void lengthsUpToTheMost() {
        Check.sentence("Returns the new length of the buffer; -1 if it would exceed 600 bytes");
        TreasureWalk walk = new TreasureWalk();
        for (int length = 20; length <= MOST; length += 20) {
            Check.answers(length, "append to " + (length - 20) + " bytes", () -> walk.append(1, 2, 3, 4, 5));
        }
        Check.answers(-1, "append to 600 bytes", () -> walk.append(1, 2, 3, 4, 5));
        Check.answers(-1, "and again", () -> walk.append(1, 2, 3, 4, 5));
    }

    private static void appendThatIsRefused() {
        Check.sentence("-1 if it would exceed 600 bytes, and the buffer is unchanged then.");
        String text = "walk 3 2;" + " ".repeat(MOST - 19) + "team 1 1 ;";
        TreasureWalk walk = filled(text);
        Check.answers(-1, "append to 600 bytes", () -> walk.append(-1, -1, -1, -1, -1));
        Check.illegal("load(601)", () -> walk.load(MOST + 1));
        Check.illegal("load(620)", () -> walk.load(MOST + 20));
        Check.answers(0, "load(600)", () -> walk.load(MOST));
        Check.answers(4, "the team at the end of the text", () -> walk.state(10));
        Check.answers(20, "append behind load", () -> walk.append(0, 0, 0, 0, 0));
    }

    private static void firstBytesOfTheBuffer() {
        Check.sentence("Reads the first bytes of the input buffer as a setup text");
        String text = "walk 3 2;team 1 1;mark a 0 0;clue a;";
        int[] ends = {9, 18, 29, 36};
        int[] teams = {0, 4, 4, 4};
        int[] clues = {0, 0, 0, 1};
        for (int i = 0; i < ends.length; i++) {
            TreasureWalk walk = filled(text);
            int index = i;
            Check.answers(clues[i], "load(" + ends[i] + ")", () -> walk.load(ends[index]));
            Check.answers(teams[i], "its team", () -> walk.state(10));
        }
        TreasureWalk walk = filled(text);
        Check.answers(-2, "load(8)", () -> walk.load(8));
        Check.answers(8, "its end", () -> walk.errorOffset());
    }

    private static void allDataAreReplaced() {
        Check.sentence("and replaces all data by it.");
        TreasureWalk walk = Check.loaded("walk 9 9;mark a 0 0;mark h 8 8;water 3 0 3 5;bend 0 0 8 8 left 1;"
                + "bend 0 0 8 8 right 1;team 8 0;clue a or h go 1 n give 5 end w to h e;clue a;clue h go 9 w give 1;");
        walk.use(0, false);
        walk.use(1, false);
        walk.use(2, false);
        walk.dig();
        walk.moveTo(0, 0);
        walk.dig();
        walk.hide(3);
        walk.use(2, true);
        Check.load(walk, "walk 4 2;mark h 1 0;bend 3 0 3 1 right 2;clue h go 1 e;clue h;");
        Check.states("behind a load", walk, 4, 2, 1, 1, 2, 2, 0, 0, 0, 0, 0, 0, 0);
        Check.answers(1, "a leg", () -> walk.walk(0, 2, 0, 0));
        Check.outside("a leg of the old clue", () -> walk.walk(0, 2, 0, 1));
        Check.illegal("a leg of another old clue", () -> walk.reached(1, 1));
        Check.outside("an old clue", () -> walk.reached(2, 0));
        Check.outside("an old bend", () -> walk.turn(1, 0));
        Check.answers(1, "starts", () -> walk.starts(0, 2, 0));
        Check.answers(1, "land where water was", () -> walk.cell(3, 0));
        Check.answers(2, "no old bend", () -> walk.pace(1, 0, 2));
        Check.answers(7, "the new bend", () -> walk.pace(3, 0, 2));
        walk.use(1, false);
        Check.answers(0, "a candidate: the third clue is no more", () -> walk.why(2, 0));
        Check.answers(3, "a cell that is left", () -> walk.cell(2, 0));
        Check.load(walk, "walk 2 1;");
        Check.states("behind another load", walk, 2, 1, 0, 0, 0, 0, 2, 2, 0, 1, 0, 0, 0);
        Check.answers(0, "a candidate without a clue", () -> walk.why(1, 0));
        Check.answers(-5, "an old mark", () -> Check.load(walk, "walk 4 2;clue h;"));
    }

    private static void bufferIsEmptyBehindLoad() {
        Check.sentence("The input buffer is empty afterwards, also if the text has an error.");
        TreasureWalk walk = filled("walk 3 2;            walk 4 4;");
        Check.answers(0, "load of a part", () -> walk.load(9));
        Check.illegal("load(1) behind it", () -> walk.load(1));
        Check.answers(20, "append behind it", () -> walk.append(0x20202020, 0, 0, 0, 0));
        Check.answers(-2, "load with an error", () -> walk.load(4));
        Check.illegal("load(1) behind it", () -> walk.load(1));
        Check.answers(20, "append behind it", () -> walk.append(0, 0, 0, 0, 0));
        Check.answers(-2, "load(0) of a full buffer", () -> walk.load(0));
        Check.illegal("load(1) behind it", () -> walk.load(1));
        Check.answers(20, "append behind it", () -> walk.append(0, 0, 0, 0, 0));
        walk.load(20);
        Check.append(walk, "walk 2 2;");
        Check.answers(0, "nothing of older texts is left", () -> walk.load(20));
    }

    private static void errorsLeaveTheData() {
        Check.sentence("An error leaves all other data unchanged.");
        String head = "walk 9 9;mark h 3 3;mark b 1 1;team 2 2;bend 0 0 8 8 left 1;water 8 8 8 8;clue b go 1 e;";
        String[] wrongs = {"?", "team 3 3;", "mark c 9 0;", "mark b 0 0;", "clue a;", "mark c 8 8;", "clue b end"};
        for (String wrong : wrongs) {
            TreasureWalk walk = Check.loaded("walk 4 3;mark a 1 1;bend 1 1 1 1 right 1;clue a go 1 e;clue a go 0 e;");
            walk.use(1, false);
            walk.hide(0);
            walk.moveTo(3, 2);
            walk.dig();
            long sum = walk.checksum();
            Check.answers(true, wrong + " is an error", () -> Check.load(walk, head + wrong) < 0);
            Check.answers(sum, "data behind " + wrong, () -> walk.checksum());
            Check.answers(10, "a bend behind " + wrong, () -> walk.pace(1, 1, 2));
            Check.answers(1, "a walk behind " + wrong, () -> walk.walk(0, 2, 2, 0));
            Check.answers(true, "the chest behind " + wrong, () -> walk.chestIsLeft());
            Check.answers(4, "undo behind " + wrong, () -> walk.undo());
        }
    }

    private static void emptyTexts() {
        Check.sentence("An empty text has a SYNTAX_ERROR.");
        TreasureWalk walk = new TreasureWalk();
        Check.answers(-2, "load(0) of an empty buffer", () -> walk.load(0));
        Check.answers(0, "its offset", () -> walk.errorOffset());
        TreasureWalk full = filled("walk 1 1;");
        Check.answers(-2, "load(0) of a buffer with a text", () -> full.load(0));
        Check.answers(0, "its offset", () -> full.errorOffset());
        Check.answers(-1, "it is no change", () -> full.undo());
    }

    private static void answersOfLoad() {
        Check.sentence("Returns the number of clues; or the error code of the first error.");
        String text = "walk 2 2;mark a 0 0;";
        for (int clues = 0; clues <= 4; clues++) {
            Check.good(clues, text);
            text += "clue a;";
        }
        Check.bad(-6, 48, text);
        Check.bad(-2, 20, text.substring(0, 20) + "?clue a or a;clue b;");
        Check.bad(-4, 30, text.substring(0, 20) + "clue a or a?clue b;");
    }

    private static void lengthsThatAreNone() {
        Check.sentence("Throws `IllegalArgumentException` if length is negative or greater than the length of the "
                + "buffer; the buffer is unchanged then");
        for (int appended = 0; appended <= 2; appended++) {
            TreasureWalk walk = appended == 0 ? new TreasureWalk() : filled("walk 3 2;" + " ".repeat(appended * 11));
            int length = appended * 20;
            for (int wrong : new int[] {-1, -20, Integer.MIN_VALUE, length + 1, length + 20, MOST + 1,
                Integer.MAX_VALUE}) {
                Check.illegal("load(" + wrong + ") of " + length + " bytes", () -> walk.load(wrong));
            }
            Check.answers(-1, "errorOffset behind them", () -> walk.errorOffset());
            Check.answers(appended == 0 ? -2 : 0, "load of all " + length + " bytes", () -> walk.load(length));
            Check.answers(appended == 0 ? 1 : 3, "the width", () -> walk.state(0));
        }
        TreasureWalk kept = filled("walk 3 2;");
        Check.illegal("load(-1)", () -> kept.load(-1));
        Check.answers(40, "append to the unchanged buffer", () -> kept.append(0, 0, 0, 0, 0));
    }

    private static void errorOffsets() {
        Check.sentence("Returns the offset of the error found by the latest call of load that did not throw; "
                + "-1 if it found none or if there was no such call.");
        TreasureWalk walk = new TreasureWalk();
        Check.answers(-1, "no call of load", () -> walk.errorOffset());
        Check.illegal("load(1)", () -> walk.load(1));
        Check.answers(-1, "one that threw", () -> walk.errorOffset());
        Check.load(walk, "walk 5 5;mark a 0 0;mark a");
        Check.answers(25, "one that found an error", () -> walk.errorOffset());
        Check.illegal("load(1)", () -> walk.load(1));
        Check.answers(25, "one that threw is not it", () -> walk.errorOffset());
        walk.load(0);
        Check.answers(0, "an error at the first byte", () -> walk.errorOffset());
        Check.load(walk, "walk 5 5;");
        Check.answers(-1, "one that found none", () -> walk.errorOffset());
        Check.illegal("load(-1)", () -> walk.load(-1));
        Check.answers(-1, "one that threw behind it", () -> walk.errorOffset());
        Check.load(walk, "walk 5 5;" + " ".repeat(MOST - 10) + "?");
        Check.answers(MOST - 1, "an error at the last byte", () -> walk.errorOffset());
        Check.load(walk, "walk 5 5" + " ".repeat(MOST - 8));
        Check.answers(MOST, "an error at the end of the longest text", () -> walk.errorOffset());
        walk.moveTo(1, 1);
        walk.undo();
        Check.answers(MOST, "changes do not matter", () -> walk.errorOffset());
    }
}
