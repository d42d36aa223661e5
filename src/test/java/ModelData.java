import java.util.ArrayList;
import java.util.HashSet;
import java.util.List;
import java.util.Set;
import java.util.TreeMap;

/** The data of the model: cells are their numbers, marks their letters. */
final class ModelData {
    static final class Bend {
        final Set<Integer> cells;
        int turn;

        Bend(Set<Integer> cells, int turn) {
            this.cells = cells;
            this.turn = turn;
        }
    }

    static final class Leg {
        String kind;
        int bearing;
        int number;
        int give;
        char mark;
    }

    static final class Clue {
        final List<Character> starts;
        final List<Leg> legs;
        boolean isUsed = true;

        Clue(List<Character> starts, List<Leg> legs) {
            this.starts = starts;
            this.legs = legs;
        }
    }

    int width;
    int height;
    final Set<Integer> water = new HashSet<>();
    final TreeMap<Character, Integer> marks = new TreeMap<>();
    final List<Bend> bends = new ArrayList<>();
    final List<Clue> clues = new ArrayList<>();
    final Set<Integer> dug = new HashSet<>();
    int team;
    int paces;
    int chest;
    int chestCell = -1;

    ModelData copy() {
        ModelData copy = new ModelData();
        copy.width = width;
        copy.height = height;
        copy.water.addAll(water);
        copy.marks.putAll(marks);
        for (Bend bend : bends) {
            copy.bends.add(new Bend(bend.cells, bend.turn));
        }
        for (Clue clue : clues) {
            Clue same = new Clue(clue.starts, clue.legs);
            same.isUsed = clue.isUsed;
            copy.clues.add(same);
        }
        copy.dug.addAll(dug);
        copy.team = team;
        copy.paces = paces;
        copy.chest = chest;
        copy.chestCell = chestCell;
        return copy;
    }
}
