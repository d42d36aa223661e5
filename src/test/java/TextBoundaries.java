import java.util.ArrayList;
import java.util.Arrays;
import java.util.List;

/** The boundary cases of the setup text: its grammar, its tokens and the ranges of its numbers. */
final class TextBoundaries {
    private static final String[] TOKENS = ("walk 6 5 ; mark a 1 1 ; mark b 2 2 ; water 0 0 0 1 ; "
            + "bend 0 0 5 4 left 1 ; bend 1 2 3 4 right 3 ; team 3 3 ; clue a ; "
            + "clue a or b go 30 n give 5 go 2 e to b se end w ;").split(" ");
    private static final int LONGEST = 600;

    private TextBoundaries() {
    }

    static void run() {
        sixHundredBytes();
        noTokenButTheDueOne();
        textsThatEndAnywhere();
        setup();
        statements();
        areas();
        legs();
        letters();
        bearings();
        numbersOfAnyLength();
        wordsOfLetters();
        longestRuns();
        spaces();
        otherBytes();
        sidesInTheirOrder();
        areasFromFirstToLast();
        turnsOfBends();
        marksAndTeams();
        goAndGive();
        waterToldAgain();
        teamToldOnceOrNever();
        dataBehindASetup();
    }

    private static String spaces(int count) {
        return " ".repeat(count);
    }

    private static String join(List<String> tokens) {
        return String.join(" ", tokens);
    }

    private static void sixHundredBytes() {
        Check.sentence("The setup text is read from an input buffer of at most 600 bytes.");
        String head = "walk 5 4;mark a 0 0;";
        Check.good(0, head + spaces(LONGEST - head.length()));
        String clue = "clue a go 1 e;";
        Check.good(1, head + spaces(LONGEST - head.length() - clue.length()) + clue);
        String open = head + spaces(LONGEST - head.length() - clue.length() + 1) + "clue a go 1 e";
        Check.bad(-2, LONGEST, open);
        Check.bad(-2, LONGEST - 1, head + spaces(LONGEST - head.length() - 1) + "?");
        StringBuilder waters = new StringBuilder("walk 5 4;");
        while (waters.length() + 13 <= LONGEST) {
            waters.append("water0 0 4 0;");
        }
        Check.good(0, waters.toString());
        TreasureWalk walk = Check.loaded(waters.toString());
        Check.answers(15, "land behind water told again and again", () -> walk.state(6));
    }

    /** In place of each token: a word, a byte, a number or a semicolon that cannot be there. */
    private static void noTokenButTheDueOne() {
        Check.sentence("a token or byte that the grammar does not allow here, at its first byte");
        Check.good(2, join(Arrays.asList(TOKENS)));
        for (int i = 0; i < TOKENS.length; i++) {
            List<String> wrongs = new ArrayList<>(List.of("zz", "?", "i", ",", "W", "\u00e4"));
            boolean isNumberDue = TOKENS[i].charAt(0) <= '9';
            if (!isNumberDue && !TOKENS[i].equals(";")) {
                wrongs.add("1");
                wrongs.add("99");
            }
            boolean isEndAllowed = List.of(";", "or", "go", "give", "to", "end").contains(TOKENS[i]);
            if (!isEndAllowed) {
                wrongs.add(";");
            }
            for (String wrong : wrongs) {
                List<String> tokens = new ArrayList<>(Arrays.asList(TOKENS));
                tokens.set(i, wrong);
                int offset = i == 0 ? 0 : join(tokens.subList(0, i)).length() + 1;
                Check.bad(-2, offset, join(tokens));
            }
        }
    }

    private static void textsThatEndAnywhere() {
        Check.sentence("the end of the text, at its length, if the text ends too early");
        for (int count = 0; count <= TOKENS.length; count++) {
            String text = join(Arrays.asList(TOKENS).subList(0, count));
            for (String end : new String[] {"", " ", spaces(7)}) {
                if (count > 0 && TOKENS[count - 1].equals(";")) {
                    TreasureWalk walk = new TreasureWalk();
                    Check.answers(true, text + " (whole)", () -> Check.load(walk, text + end) >= 0);
                    Check.answers(-1, text + " (errorOffset)", () -> walk.errorOffset());
                } else {
                    Check.bad(-2, text.length() + end.length(), text + end);
                }
            }
        }
        TreasureWalk cut = new TreasureWalk();
        Check.append(cut, "walk 15 5;clue a;");
        Check.answers(-2, "a text cut in a number", () -> cut.load(6));
        Check.answers(6, "its length, not the buffer's", () -> cut.errorOffset());
        Check.append(cut, "walk 15 5;clue a;");
        Check.answers(-2, "a text cut in a word", () -> cut.load(12));
        Check.answers(10, "the word's first byte", () -> cut.errorOffset());
        Check.append(cut, "walk 15 5;clue a;");
        Check.answers(0, "a text cut behind a statement", () -> cut.load(10));
        Check.answers(-1, "it is whole", () -> cut.errorOffset());
    }

    private static void setup() {
        Check.sentence("setup = \"walk\" number number \";\" { statement \";\" }");
        Check.good(0, "walk 1 1;");
        Check.bad(-2, 0, "walks 1 1;");
        Check.bad(-2, 0, "wal 1 1;");
        Check.bad(-2, 0, ";");
        Check.bad(-2, 0, "team 0 0;walk 1 1;");
        Check.bad(-2, 9, "walk 1 1;walk 1 1;");
        Check.bad(-2, 9, "walk 1 1;;");
        Check.bad(-2, 9, "walk 1 1 1;");
        Check.bad(-2, 7, "walk 1 ;");
        Check.bad(-2, 18, "walk 1 1;team 0 0 ");
        Check.bad(-2, 18, "walk 1 1;team 0 0 mark a 0 0;");
    }

    private static void statements() {
        Check.sentence("statement = \"water\" area | \"bend\" area ( \"left\" | \"right\" ) number | "
                + "\"mark\" mark number number | \"team\" number number | \"clue\" mark { \"or\" mark } { leg }");
        String[] wholes = {"water 0 0 0 0", "bend 0 0 0 0 left 1", "bend 0 0 0 0 right 1", "mark c 1 1", "team 1 1",
            "clue a", "clue a or b", "clue a or b end e", "clue a to b e end e"};
        String head = "walk 5 5;mark a 2 2;mark b 3 3;";
        for (String whole : wholes) {
            Check.good(whole.startsWith("clue") ? 1 : 0, head + whole + ";");
            Check.bad(-2, head.length() + whole.length() + 1, head + whole + " 9;");
            Check.bad(-2, head.length() + whole.length() + 1, head + whole + " left;");
            String word = whole.substring(0, whole.indexOf(' '));
            String rest = whole.substring(word.length());
            Check.bad(-2, head.length(), head + word + "s" + rest + ";");
            Check.bad(-2, head.length(), head + word.substring(1) + rest + ";");
            Check.bad(-2, head.length(), head + word.substring(0, word.length() - 1) + rest + ";");
        }
        Check.badAt(-2, "lef ", head + "bend 0 0 0 0 lef 1;");
        Check.badAt(-2, "rights", head + "bend 0 0 0 0 rights 1;");
        Check.badAt(-2, "right", head + "bend 0 0 0 0 left right 1;");
        Check.badAt(-2, "1;", head + "bend 0 0 0 0 1;");
        Check.badAt(-2, "o b", head + "clue a o b;");
        Check.badAt(-2, "orb", head + "clue a orb;");
        Check.badAt(-2, "or;", head + "clue a or or;");
        Check.badAt(-2, "b;", head + "clue a b;");
        Check.badAt(-2, "or b", head + "clue a end e or b;");
    }

    private static void areas() {
        Check.sentence("area = number number number number");
        for (String statement : new String[] {"water", "bend"}) {
            String end = statement.equals("bend") ? " left 1;" : ";";
            Check.good(0, "walk 5 5;" + statement + " 0 1 2 3" + end);
            Check.badAt(-2, end.trim(), "walk 5 5;" + statement + " 0 1 2" + end);
            Check.badAt(-2, end.trim(), "walk 5 5;" + statement + " 0" + end);
            Check.badAt(-2, end.trim(), "walk 5 5;" + statement + end);
            Check.badAt(-2, "4" + end, "walk 5 5;" + statement + " 0 1 2 3 4" + end);
        }
    }

    private static void legs() {
        Check.sentence("leg = \"go\" number bearing [ \"give\" number ] | \"to\" mark bearing | \"end\" bearing");
        String head = "walk 5 5;mark a 2 2;clue a ";
        String[] wholes = {"go 1 e", "go 1 e give 1", "to a e", "end e", "go 1 e end e", "end e go 1 e give 0"};
        for (String whole : wholes) {
            Check.good(1, head + whole + ";");
            Check.bad(-2, head.length(), head + "x" + whole + ";");
            Check.bad(-2, head.length(), head + whole.substring(1) + ";");
        }
        Check.badAt(-2, "e;", head + "go e;");
        Check.badAt(-2, ";", head + "go 1;");
        Check.badAt(-2, "1 e", head + "go 1 1 e;");
        Check.badAt(-2, "e;", head + "go 1 e e;");
        Check.badAt(-2, "e;", head + "go 1 e give e;");
        Check.badAt(-2, "give 2", head + "go 1 e give 1 give 2;");
        Check.badAt(-2, "give", head + "go 1 give 1 e;");
        Check.badAt(-2, "gives", head + "go 1 e gives 1;");
        Check.badAt(-2, "giv ", head + "go 1 e giv 1;");
        Check.badAt(-2, "give", head + "to a e give 1;");
        Check.badAt(-2, "give", head + "end e give 1;");
        Check.badAt(-2, "give", head + "give 1;");
        Check.badAt(-2, ";", head + "to a;");
        Check.badAt(-2, "1 e", head + "to 1 e;");
        Check.badAt(-2, "1 e", head + "end 1 e;");
        Check.badAt(-2, ";", head + "end;");
        Check.badAt(-2, "ende", head + "ende;");
    }

    private static void letters() {
        Check.sentence("mark = a word of one letter, a to h");
        String head = "walk 5 5;mark a 0 0;mark h 4 4;";
        for (String letter : new String[] {"a", "h"}) {
            Check.good(1, head + "clue " + letter + ";");
            Check.good(1, head + "clue " + letter + " to " + letter + " e;");
        }
        for (String wrong : new String[] {"i", "z", "aa", "ha", "ab", "`", "{", "A", "H", "0", "8", ";", "@"}) {
            Check.bad(-2, head.length() + 5, head + "mark " + wrong + " 0 0;");
            Check.bad(-2, head.length() + 5, head + "clue " + wrong + " end e;");
            Check.bad(-2, head.length() + 10, head + "clue a or " + wrong + " end e;");
            Check.bad(-2, head.length() + 10, head + "clue a to " + wrong + " e;");
        }
    }

    private static void bearings() {
        Check.sentence("bearing = \"n\" | \"ne\" | \"e\" | \"se\" | \"s\" | \"sw\" | \"w\" | \"nw\"");
        String head = "walk 5 5;mark a 2 2;clue a ";
        for (String bearing : new String[] {"n", "ne", "e", "se", "s", "sw", "w", "nw"}) {
            Check.good(1, head + "go 1 " + bearing + " to a " + bearing + " end " + bearing + ";");
        }
        for (String wrong : new String[] {"en", "es", "ws", "wn", "ns", "ew", "nn", "nne", "sse", "nes", "x", "north",
            "N", "o", "a", "0", "2"}) {
            Check.bad(-2, head.length() + 5, head + "go 1 " + wrong + ";");
            Check.bad(-2, head.length() + 5, head + "to a " + wrong + ";");
            Check.bad(-2, head.length() + 4, head + "end " + wrong + ";");
        }
    }

    /** Each number of a text with zeros ahead, and with what makes it too great by far. */
    private static void numbersOfAnyLength() {
        Check.sentence("A number is a run of decimal digits, of any length (leading zeros do not matter)");
        long sum = Check.loaded(join(Arrays.asList(TOKENS))).checksum();
        String zeros = "0".repeat(300);
        for (int i = 0; i < TOKENS.length; i++) {
            if (TOKENS[i].charAt(0) > '9') {
                continue;
            }
            int offset = join(Arrays.asList(TOKENS).subList(0, i)).length() + 1;
            List<String> tokens = new ArrayList<>(Arrays.asList(TOKENS));
            tokens.set(i, zeros + TOKENS[i]);
            Check.answers(sum, "zeros ahead of number " + i, () -> Check.loaded(join(tokens)).checksum());
            int number = Integer.parseInt(TOKENS[i]);
            for (String big : new String[] {"" + ((1L << 32) + number), "" + (65536 + number), "" + (256 + number),
                "1844674407370955" + (1616 + number), "1" + "0".repeat(300 - TOKENS[i].length()) + TOKENS[i],
                "9".repeat(300), zeros + "99"}) {
                tokens.set(i, big);
                Check.bad(-3, offset, join(tokens));
            }
        }
        Check.good(0, "walk " + "0".repeat(590) + "1 1;");
        Check.bad(-3, 5, "walk " + "0".repeat(590) + " 1;");
        Check.bad(-3, 5, "walk " + "9".repeat(591) + " 1;");
        Check.bad(-2, 9, "walk 1 1;0");
    }

    private static void wordsOfLetters() {
        Check.sentence("a word is a run of the letters a to z.");
        Check.bad(-2, 0, "Walk 1 1;");
        Check.bad(-2, 0, "WALK 1 1;");
        Check.bad(-2, 3, "   wal 1 1;");
        Check.bad(-2, 4, "walk`1 1;");
        Check.bad(-2, 4, "walk{1 1;");
        Check.bad(-2, 4, "walk_1 1;");
        Check.bad(-2, 0, "walka 1 1;");
        Check.bad(-2, 0, "walkz 1 1;");
        Check.bad(-2, 9, "walk 1 1;maRk a 0 0;");
        Check.bad(-2, 9, "walk 1 1;a");
        Check.bad(-2, 9, "walk 1 1;z");
    }

    private static void longestRuns() {
        Check.sentence("Each run is as long as possible.");
        Check.bad(-2, 7, "walk 15;");
        Check.bad(-3, 5, "walk 55;");
        Check.bad(-2, 9, "walk 5 5;marka 0 0;");
        Check.bad(-2, 17, "walk 5 5;mark a00;");
        Check.bad(-3, 15, "walk 5 5;mark a10 0;");
        String head = "walk 5 5;mark a 2 2;mark e 0 0;";
        Check.badAt(-2, "cluea", head + "cluea;");
        Check.badAt(-2, "aor", head + "clue aor e;");
        Check.badAt(-2, "ends", head + "clue a ends;");
        Check.badAt(-2, "egive", head + "clue a go 1 egive 1;");
        Check.badAt(-2, "ee", head + "clue a to ee;");
        Check.badAt(-3, "31", head + "clue a go 31e;");
        Check.region(head + "clue a end ne;", 0, "4,0");
        Check.region(head + "clue a to e nw;", 0, "0,0");
        Check.region(head + "clue a go 1 e end e;", 0, "4,2");
    }

    private static void spaces() {
        Check.sentence("Spaces (byte 32) may precede any token and may follow the last one; "
                + "a word and a number side by side need none between them.");
        long sum = Check.loaded(join(Arrays.asList(TOKENS))).checksum();
        String wide = "  " + String.join("   ", TOKENS) + "    ";
        Check.answers(sum, "three spaces", () -> Check.loaded(wide).checksum());
        StringBuilder dense = new StringBuilder();
        for (String token : TOKENS) {
            if (dense.length() > 0 && kind(dense.charAt(dense.length() - 1)) == kind(token.charAt(0))) {
                dense.append(' ');
            }
            dense.append(token);
        }
        Check.answers(sum, dense + " (no space but the needed ones)", () -> Check.loaded(dense.toString()).checksum());
        Check.good(0, spaces(300) + "walk 1 1;" + spaces(291));
        Check.bad(-2, 0, "wa lk 1 1;");
        Check.bad(-3, 7, "walk 1 00 0;");
        Check.bad(-2, LONGEST, spaces(LONGEST));
    }

    /** Words and numbers hang together with their like, semicolons with nothing. */
    private static int kind(char sign) {
        return sign == ';' ? sign : sign <= '9' ? '0' : 'a';
    }

    private static void otherBytes() {
        Check.sentence("No other byte separates tokens.");
        for (int sign = 0; sign < 256; sign++) {
            boolean isLetter = sign >= 'a' && sign <= 'z';
            boolean isDigit = sign >= '0' && sign <= '9';
            if (sign == ' ' || isLetter || isDigit) {
                continue;
            }
            char other = (char) sign;
            Check.bad(-2, 4, "walk" + other + "1 1;");
            Check.bad(-2, 6, "walk 1" + other + "1;");
            Check.bad(-2, 0, other + "walk 1 1;");
            Check.bad(-2, 9, "walk 1 1;" + other);
            Check.bad(-2, 10, "walk 1 1; " + other + "team 0 0;");
            if (sign != ';') {
                Check.bad(-2, 8, "walk 1 1" + other + ";");
            }
        }
    }

    private static void sidesInTheirOrder() {
        Check.sentence("The numbers of walk are the width and the height.");
        Check.states("walk 1 20", Check.loaded("walk 1 20;"), 1, 20);
        Check.states("walk 20 1", Check.loaded("walk 20 1;"), 20, 1);
    }

    private static void areasFromFirstToLast() {
        Check.sentence("Those of an area are the x and y of its first cell and the x and y of its last one "
                + "(not less than those of the first); all cells between are in it.");
        for (String statement : new String[] {"water ", "bend "}) {
            String end = statement.equals("bend ") ? " left 1;" : ";";
            for (String good : new String[] {"0 0 0 0", "3 4 3 4", "0 4 3 4", "3 0 3 4", "1 1 2 3", "00 00 03 03"}) {
                Check.good(0, "walk 4 5;" + statement + good + end);
            }
            String[] wrongs = {"4 0 3 4", "0 5 3 4", "0 0 4 4", "0 0 3 5", "2 0 1 4", "0 3 3 2", "3 4 2 4", "3 4 3 3",
                "9 9 9 9", "3 3 0 0", "1 4 1 1"};
            int[] places = {0, 2, 4, 6, 4, 6, 4, 6, 0, 4, 6};
            for (int i = 0; i < wrongs.length; i++) {
                Check.bad(-3, 9 + statement.length() + places[i], "walk 4 5;" + statement + wrongs[i] + end);
            }
        }
        cellsOfWater("walk 4 5;water 1 1 2 3;", ".... .~~. .~~. .~~. ....");
        cellsOfWater("walk 4 5;water 3 4 3 4;water 0 0 0 0;", "~... .... .... .... ...~");
        cellsOfWater("walk 4 5;water 0 2 3 2;water 2 0 2 4;", "..~. ..~. ~~~~ ..~. ..~.");
    }

    private static void cellsOfWater(String text, String due) {
        TreasureWalk walk = Check.loaded(text);
        StringBuilder cells = new StringBuilder();
        for (int y = 0; y < 5; y++) {
            cells.append(y == 0 ? "" : " ");
            for (int x = 0; x < 4; x++) {
                cells.append(walk.cell(x, y) == 0 ? '~' : '.');
            }
        }
        Check.answers(due, text, () -> cells.toString());
    }

    private static void turnsOfBends() {
        Check.sentence("The turn of a bend is its number (1 to 3), negative for left.");
        for (int turn = 1; turn <= 3; turn++) {
            int number = turn;
            Check.answers(-number, "left " + turn,
                    () -> Check.loaded("walk 2 2;bend 0 0 1 1 left " + number + ";").turn(0, 0));
            Check.answers(number, "right " + turn,
                    () -> Check.loaded("walk 2 2;bend 0 0 1 1 right " + number + ";").turn(0, 0));
        }
        for (int turn : new int[] {0, 4, 5, 8}) {
            Check.badAt(-3, turn + ";", "walk 2 2;bend 0 0 1 1 left " + turn + ";");
            Check.badAt(-3, turn + ";", "walk 2 2;bend 0 0 1 1 right " + turn + ";");
        }
    }

    private static void marksAndTeams() {
        Check.sentence("Those of mark and team are an x and a y.");
        Check.answers(7, "a team", () -> Check.loaded("walk 4 3;team 3 1;").state(10));
        Check.answers(11, "a team on the last cell", () -> Check.loaded("walk 4 3;team 3 2;").state(10));
        Check.region("walk 4 3;mark a 3 1;clue a;", 0, "3,1");
        Check.region("walk 4 3;mark a 1 2;clue a;", 0, "1,2");
        for (String statement : new String[] {"mark a ", "team "}) {
            Check.good(0, "walk 4 3;" + statement + "0 0;");
            Check.good(0, "walk 4 3;" + statement + "3 2;");
            Check.badAt(-3, "4 2;", "walk 4 3;" + statement + "4 2;");
            Check.badAt(-3, "3;", "walk 4 3;" + statement + "3 3;");
            Check.badAt(-3, "4 3;", "walk 4 3;" + statement + "4 3;");
        }
    }

    private static void goAndGive() {
        Check.sentence("The number of go is 0 to 30, that of give is 0 to 5 (0 without it).");
        String head = "walk 20 1;mark a 0 0;clue a go ";
        Check.good(1, head + "0 e;");
        Check.good(1, head + "30 e;");
        Check.bad(-3, head.length(), head + "31 e;");
        Check.bad(-3, head.length(), head + "60 e;");
        Check.good(1, head + "30 e give 0;");
        Check.good(1, head + "0 e give 5;");
        Check.bad(-3, head.length() + 9, head + "0 e give 6;");
        Check.bad(-3, head.length() + 9, head + "0 e give 30;");
        Check.region(head + "3 e;", 0, "3,0");
        Check.region(head + "3 e give 0;", 0, "3,0");
        Check.region(head + "3 e give 1 go 3 e;", 0, "5,0 6,0 7,0");
    }

    private static void waterToldAgain() {
        Check.sentence("Water may be told of a cell several times.");
        TreasureWalk walk = Check.loaded("walk 3 1;water 0 0 0 0;water 0 0 0 0;water 0 0 1 0;water 1 0 1 0;");
        Check.answers(1, "cells of land", () -> walk.state(6));
        Check.answers(0, "water", () -> walk.cell(0, 0));
        Check.answers(3, "land", () -> walk.cell(2, 0));
    }

    private static void teamToldOnceOrNever() {
        Check.sentence("The team is told once at most; without it it stands on the first cell of land.");
        Check.answers(5, "a team that is told", () -> Check.loaded("walk 3 2;team 2 1;").state(10));
        Check.answers(0, "no water", () -> Check.loaded("walk 3 2;").state(10));
        Check.answers(2, "water ahead", () -> Check.loaded("walk 3 2;water 0 0 1 1;").state(10));
        Check.answers(3, "a row of water", () -> Check.loaded("walk 3 2;water 0 0 2 0;").state(10));
        Check.answers(399, "one cell of land alone",
                () -> Check.loaded("walk 20 20;water 0 0 19 18;water 0 19 18 19;").state(10));
        Check.answers(1, "water told behind all", () -> Check.loaded("walk 3 2;mark a 1 0;clue a;water 0 0 0 0;")
                .state(10));
        Check.answers(0, "land behind the water's rows", () -> Check.loaded("walk 3 2;water 1 0 2 0;").state(10));
        Check.badAt(-2, "team", "walk 3 2;team 1 1;team 1 1;");
    }

    private static void dataBehindASetup() {
        Check.sentence("All clues are in use, no cell is dug, and there is no chest.");
        String text = "walk 3 2;mark a 0 0;clue a go 1 e give 1;clue a go 1 e give 2;clue a go 2 e give 2;"
                + "clue a go 2 e give 3;";
        TreasureWalk walk = Check.loaded(text);
        Check.states("a first load", walk, 3, 2, 1, 0, 4, 4, 3, 3, 0, 1, 0, 0, 0);
        for (int i = 0; i < 4; i++) {
            walk.use(i, false);
        }
        walk.hide(0);
        walk.dig();
        walk.moveTo(2, 1);
        walk.hide(1);
        Check.states("changes", walk, 3, 2, 1, 0, 4, 0, 6, 5, 1, 1, 5, 2, 1);
        Check.load(walk, text);
        Check.states("a second load", walk, 3, 2, 1, 0, 4, 4, 3, 3, 0, 1, 0, 0, 0);
    }
}
