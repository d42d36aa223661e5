import java.math.BigInteger;
import java.util.ArrayList;
import java.util.Comparator;
import java.util.HashSet;
import java.util.List;
import java.util.Set;
import java.util.regex.Matcher;
import java.util.regex.Pattern;

/** Reads a setup text for the model: it gathers errors and takes the one that the document puts first. */
final class ModelReader {
    static final class Wrong {
        final int code;
        final int offset;

        Wrong(int code, int offset) {
            this.code = code;
            this.offset = offset;
        }
    }

    /** Ends the reading: what follows cannot be told any more. */
    private static final class Stop extends Exception {
        private static final long serialVersionUID = 1;
    }

    private static final List<String> BEARINGS = List.of("n", "ne", "e", "se", "s", "sw", "w", "nw");

    final ModelData data = new ModelData();
    private final List<String> tokens = new ArrayList<>();
    private final List<Integer> offsets = new ArrayList<>();
    private final List<Wrong> wrongs = new ArrayList<>();
    private int next = 0;
    private boolean hasTeam = false;

    ModelReader(String text) {
        Matcher matcher = Pattern.compile("[a-z]+|[0-9]+|[^ ]", Pattern.DOTALL).matcher(text);
        while (matcher.find()) {
            tokens.add(matcher.group());
            offsets.add(matcher.start());
        }
        tokens.add("");
        offsets.add(text.length());
    }

    /** Returns the first error, or null. */
    Wrong read() {
        try {
            word("walk");
            data.width = number(1, 20);
            data.height = number(1, 20);
            word(";");
            while (!token().isEmpty()) {
                statement();
            }
        } catch (Stop stop) {
            // what was found until then is in the list
        }
        if (!hasTeam) {
            while (data.water.contains(data.team)) {
                data.team++;
            }
        }
        // the codes fall in the order of the kinds of error
        return wrongs.stream()
                .min(Comparator.comparingInt((Wrong wrong) -> wrong.offset).thenComparingInt(wrong -> -wrong.code))
                .orElse(null);
    }

    private String token() {
        return tokens.get(next);
    }

    private int offset() {
        return offsets.get(next);
    }

    private void note(int code, int offset) {
        wrongs.add(new Wrong(code, offset));
    }

    private Stop stop(int code) {
        note(code, offset());
        return new Stop();
    }

    private void word(String word) throws Stop {
        if (!token().equals(word)) {
            throw stop(-2);
        }
        next++;
    }

    private int number(int least, int most) throws Stop {
        if (!token().matches("[0-9]+")) {
            throw stop(-2);
        }
        BigInteger number = new BigInteger(token());
        if (number.compareTo(BigInteger.valueOf(least)) < 0 || number.compareTo(BigInteger.valueOf(most)) > 0) {
            throw stop(-3);
        }
        next++;
        return number.intValue();
    }

    private char letter() throws Stop {
        if (!token().matches("[a-h]")) {
            throw stop(-2);
        }
        return token().charAt(0);
    }

    private int bearing() throws Stop {
        int bearing = BEARINGS.indexOf(token());
        if (bearing < 0) {
            throw stop(-2);
        }
        next++;
        return bearing;
    }

    private Set<Integer> area() throws Stop {
        int firstX = number(0, data.width - 1);
        int firstY = number(0, data.height - 1);
        int lastX = number(firstX, data.width - 1);
        int lastY = number(firstY, data.height - 1);
        Set<Integer> cells = new HashSet<>();
        for (int y = firstY; y <= lastY; y++) {
            for (int x = firstX; x <= lastX; x++) {
                cells.add(y * data.width + x);
            }
        }
        return cells;
    }

    private int landCell() throws Stop {
        int offset = offset();
        int x = number(0, data.width - 1);
        int y = number(0, data.height - 1);
        int cell = y * data.width + x;
        if (data.water.contains(cell)) {
            note(-7, offset);
        }
        return cell;
    }

    private void statement() throws Stop {
        switch (token()) {
            case "water":
                next++;
                water();
                break;
            case "bend":
                if (data.bends.size() == 8) {
                    note(-6, offset());
                }
                next++;
                bend();
                break;
            case "mark":
                next++;
                mark();
                break;
            case "team":
                if (hasTeam) {
                    note(-2, offset());
                }
                next++;
                data.team = landCell();
                hasTeam = true;
                break;
            case "clue":
                if (data.clues.size() == 4) {
                    note(-6, offset());
                }
                next++;
                clue();
                break;
            default:
                throw stop(-2);
        }
        word(";");
    }

    private void water() throws Stop {
        int offset = offset();
        Set<Integer> cells = area();
        if (hasTeam && cells.contains(data.team) || data.marks.values().stream().anyMatch(cells::contains)) {
            note(-7, offset);
        }
        data.water.addAll(cells);
        if (token().equals(";") && data.water.size() == data.width * data.height) {
            note(-7, offset());
        }
    }

    private void bend() throws Stop {
        Set<Integer> cells = area();
        int side = token().equals("left") ? -1 : 1;
        if (side > 0) {
            word("right");
        } else {
            next++;
        }
        data.bends.add(new ModelData.Bend(cells, side * number(1, 3)));
    }

    private void mark() throws Stop {
        char mark = letter();
        if (data.marks.containsKey(mark)) {
            note(-4, offset());
        }
        next++;
        data.marks.put(mark, landCell());
    }

    private void clue() throws Stop {
        List<Character> starts = new ArrayList<>();
        do {
            if (!starts.isEmpty()) {
                word("or");
            }
            char mark = knownMark();
            if (starts.contains(mark)) {
                note(-4, offsets.get(next - 1));
            }
            starts.add(mark);
        } while (token().equals("or"));
        List<ModelData.Leg> legs = new ArrayList<>();
        while (List.of("go", "to", "end").contains(token())) {
            if (legs.size() == 8) {
                note(-6, offset());
            }
            legs.add(leg());
        }
        data.clues.add(new ModelData.Clue(starts, legs));
    }

    private char knownMark() throws Stop {
        char mark = letter();
        if (!data.marks.containsKey(mark)) {
            note(-5, offset());
        }
        next++;
        return mark;
    }

    private ModelData.Leg leg() throws Stop {
        ModelData.Leg leg = new ModelData.Leg();
        leg.kind = token();
        next++;
        if (leg.kind.equals("go")) {
            leg.number = number(0, 30);
        } else if (leg.kind.equals("to")) {
            leg.mark = knownMark();
        }
        leg.bearing = bearing();
        if (leg.kind.equals("go") && token().equals("give")) {
            next++;
            leg.give = number(0, 5);
        }
        return leg;
    }
}
