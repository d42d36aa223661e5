import java.util.ArrayList;
import java.util.HashSet;
import java.util.List;
import java.util.Set;

/** Makes setup texts of all kinds, most of them without an error, and spoils them. */
final class SetupTexts {
    private static final String[] BEARINGS = {"n", "ne", "e", "se", "s", "sw", "w", "nw"};
    private static final int LONGEST = 600;

    private final Dice dice;
    private final Set<Integer> water = new HashSet<>();
    private int width;
    private int height;

    SetupTexts(Dice dice) {
        this.dice = dice;
    }

    String make() {
        width = dice.below(6) == 0 ? 12 + dice.below(9) : 1 + dice.below(8);
        height = dice.below(6) == 0 ? 12 + dice.below(9) : 1 + dice.below(8);
        StringBuilder text = new StringBuilder("walk " + width + " " + height + ";");
        water.clear();
        for (int i = dice.below(4); i > 0; i--) {
            add(text, water());
        }
        List<String> marks = new ArrayList<>();
        for (int i = 1 + dice.below(4); i > 0; i--) {
            String mark = "" + (char) ('a' + dice.below(8));
            if (!marks.contains(mark)) {
                marks.add(mark);
                add(text, "mark " + mark + " " + place());
            }
        }
        int bends = dice.below(3) == 0 ? dice.below(9) : dice.below(4);
        for (int i = bends; i > 0; i--) {
            add(text, bend());
        }
        if (dice.below(2) == 0) {
            add(text, "team " + place());
        }
        for (int i = dice.below(5); i > 0; i--) {
            add(text, clue(marks));
        }
        return text.toString();
    }

    private void add(StringBuilder text, String statement) {
        if (text.length() + statement.length() < LONGEST) {
            text.append(statement).append(';');
        }
    }

    private String water() {
        int firstX = dice.below(width);
        int firstY = dice.below(height);
        int lastX = Math.min(width - 1, firstX + dice.below(3));
        int lastY = Math.min(height - 1, firstY + dice.below(3));
        for (int y = firstY; y <= lastY; y++) {
            for (int x = firstX; x <= lastX; x++) {
                water.add(y * width + x);
            }
        }
        return "water " + firstX + " " + firstY + " " + lastX + " " + lastY;
    }

    /** A cell, of land if some throws find one. */
    private String place() {
        int cell = dice.below(width * height);
        for (int i = 0; i < 6 && water.contains(cell); i++) {
            cell = dice.below(width * height);
        }
        return cell % width + " " + cell / width;
    }

    private String bend() {
        int x = dice.below(width);
        int y = dice.below(height);
        return "bend " + x + " " + y + " " + Math.min(width - 1, x + dice.below(6))
                + " " + Math.min(height - 1, y + dice.below(6))
                + dice.oneOf(" left ", " right ") + (1 + dice.below(3));
    }

    private String clue(List<String> marks) {
        StringBuilder clue = new StringBuilder("clue ");
        int starts = 1 + dice.below(marks.size());
        int first = dice.below(marks.size());
        for (int i = 0; i < starts; i++) {
            clue.append(i == 0 ? "" : " or ").append(marks.get((first + i) % marks.size()));
        }
        for (int i = dice.below(dice.oneOf(2, 3, 4, 9)); i > 0; i--) {
            clue.append(leg(marks));
        }
        return clue.toString();
    }

    private String leg(List<String> marks) {
        String bearing = " " + BEARINGS[dice.below(8)];
        switch (dice.below(8)) {
            case 0:
                return " end" + bearing;
            case 1:
                return " to " + marks.get(dice.below(marks.size())) + bearing;
            default:
                String go = " go " + dice.below(dice.oneOf(4, 4, 7, 31)) + bearing;
                return dice.below(4) == 0 ? go : go + " give " + dice.below(6);
        }
    }

    /** Puts in, takes away or changes a token or a sign. */
    String spoil(String text) {
        int at = dice.below(text.length());
        String piece = dice.oneOf(";", "0", "9", "99", " a ", " e ", "x", " or ", "?", " to ", " go ", " mark ",
                " team 0 0;", " end e", "water 0 0 0 0;", "bend 0 0 0 0 left 1;", "clue a;", "clue h or a end n;",
                "mark a 0 0;", "water 0 0 " + (width - 1) + " " + (height - 1) + ";", " ", "\u00e9");
        int semicolon = text.indexOf(';', at) + 1;
        String spoilt;
        switch (dice.below(4)) {
            case 0:
                spoilt = text.substring(0, at);
                break;
            case 1:
                spoilt = text.substring(0, at) + piece + text.substring(at);
                break;
            case 2:
                spoilt = text.substring(0, at) + piece + text.substring(at + 1);
                break;
            default:
                spoilt = text.substring(0, semicolon) + piece + text.substring(semicolon);
                break;
        }
        return spoilt.length() > LONGEST ? text : spoilt;
    }
}
