import java.util.ArrayDeque;
import java.util.ArrayList;
import java.util.Deque;
import java.util.HashSet;
import java.util.List;
import java.util.NoSuchElementException;
import java.util.Set;
import java.util.TreeMap;
import java.util.TreeSet;

/**
 * The promises once more, in the plainest way and with the Java library, to compare the program
 * with. It counts every walk anew from the words of the document and keeps nothing.
 */
final class Model {
    private final StringBuilder buffer = new StringBuilder();
    private int errorOffset = -1;
    private ModelData data = new ModelData();
    private final Deque<ModelData> past = new ArrayDeque<>();

    Model() {
        data.width = 1;
        data.height = 1;
    }

    int append(int... words) {
        if (buffer.length() + 20 > 600) {
            return -1;
        }
        for (int word : words) {
            for (int i = 0; i < 4; i++) {
                buffer.append((char) (word >>> 24));
                word <<= 8;
            }
        }
        return buffer.length();
    }

    int load(int length) {
        if (length < 0 || length > buffer.length()) {
            throw new IllegalArgumentException();
        }
        ModelReader reader = new ModelReader(buffer.substring(0, length));
        buffer.setLength(0);
        ModelReader.Wrong wrong = reader.read();
        errorOffset = wrong == null ? -1 : wrong.offset;
        if (wrong != null) {
            return wrong.code;
        }
        keep();
        data = reader.data;
        return data.clues.size();
    }

    int errorOffset() {
        return errorOffset;
    }

    private void keep() {
        past.addLast(data.copy());
        if (past.size() > 8) {
            past.removeFirst();
        }
    }

    int state(int what) {
        List<Integer> all = List.of(data.width, data.height, data.marks.size(), data.bends.size(),
                data.clues.size(), (int) data.clues.stream().filter(clue -> clue.isUsed).count(),
                candidates().size(), left().size(), data.dug.size(), parts().size(), data.team, data.paces,
                data.chest);
        if (what < 0 || what >= all.size()) {
            throw new IllegalArgumentException();
        }
        return all.get(what);
    }

    private int number(int x, int y) {
        if (x < 0 || y < 0 || x >= data.width || y >= data.height) {
            throw new IndexOutOfBoundsException();
        }
        return y * data.width + x;
    }

    private ModelData.Clue clue(int index) {
        if (index < 0 || index >= data.clues.size()) {
            throw new IndexOutOfBoundsException();
        }
        return data.clues.get(index);
    }

    private TreeSet<Integer> candidates() {
        TreeSet<Integer> cells = new TreeSet<>();
        for (int cell = 0; cell < data.width * data.height; cell++) {
            if (!data.water.contains(cell)) {
                cells.add(cell);
            }
        }
        for (ModelData.Clue clue : data.clues) {
            if (clue.isUsed) {
                cells.retainAll(region(clue));
            }
        }
        return cells;
    }

    private TreeSet<Integer> left() {
        TreeSet<Integer> cells = candidates();
        cells.removeAll(data.dug);
        return cells;
    }

    int cell(int x, int y) {
        int cell = number(x, y);
        if (data.water.contains(cell)) {
            return 0;
        }
        return (candidates().contains(cell) ? 3 : 1) + (data.dug.contains(cell) ? 1 : 0);
    }

    int pace(int x, int y, int bearing) {
        int cell = number(x, y);
        if (bearing < 0 || bearing > 7) {
            throw new IllegalArgumentException();
        }
        return pace(cell, bearing);
    }

    private int pace(int cell, int bearing) {
        int real = bearing;
        for (ModelData.Bend bend : data.bends) {
            if (bend.cells.contains(cell)) {
                real += bend.turn;
            }
        }
        return plainPace(cell, Math.floorMod(real, 8));
    }

    private int plainPace(int cell, int bearing) {
        int x = cell % data.width;
        int y = cell / data.width;
        switch (bearing) {
            case 0: y--; break;
            case 1: y--; x++; break;
            case 2: x++; break;
            case 3: x++; y++; break;
            case 4: y++; break;
            case 5: y++; x--; break;
            case 6: x--; break;
            default: x--; y--; break;
        }
        if (x < 0 || y < 0 || x >= data.width || y >= data.height) {
            return -1;
        }
        int next = y * data.width + x;
        return data.water.contains(next) ? -1 : next;
    }

    /** Where so many paces by a bearing lead; -1 if one of them cannot be made. */
    private int paces(int cell, int bearing, int count) {
        int at = cell;
        for (int i = 0; i < count && at >= 0; i++) {
            at = pace(at, bearing);
        }
        return at;
    }

    /** The cells at which a leg can end, by the paces that it makes. */
    private TreeMap<Integer, Integer> ends(ModelData.Leg leg, int cell) {
        TreeMap<Integer, Integer> ends = new TreeMap<>();
        if (leg.kind.equals("go")) {
            for (int n = Math.max(0, leg.number - leg.give); n <= leg.number + leg.give; n++) {
                int end = paces(cell, leg.bearing, n);
                if (end >= 0) {
                    ends.put(n, end);
                }
            }
        } else if (leg.kind.equals("to")) {
            for (int n = 0; n <= 60 && ends.isEmpty(); n++) {
                int end = paces(cell, leg.bearing, n);
                if (end == data.marks.get(leg.mark)) {
                    ends.put(n, end);
                }
            }
        } else if (paces(cell, leg.bearing, 60) < 0) {
            int n = 0;
            while (paces(cell, leg.bearing, n + 1) >= 0) {
                n++;
            }
            ends.put(n, paces(cell, leg.bearing, n));
        }
        return ends;
    }

    private Set<Integer> behind(ModelData.Clue clue, int legs, Set<Integer> starts) {
        Set<Integer> cells = new HashSet<>(starts);
        for (int i = 0; i < legs; i++) {
            Set<Integer> next = new HashSet<>();
            for (int cell : cells) {
                next.addAll(ends(clue.legs.get(i), cell).values());
            }
            cells = next;
        }
        return cells;
    }

    private Set<Integer> starts(ModelData.Clue clue) {
        Set<Integer> cells = new HashSet<>();
        for (char mark : clue.starts) {
            cells.add(data.marks.get(mark));
        }
        return cells;
    }

    private Set<Integer> region(ModelData.Clue clue) {
        return behind(clue, clue.legs.size(), starts(clue));
    }

    int reached(int clue, int legs) {
        ModelData.Clue found = clue(clue);
        if (legs < 0 || legs > found.legs.size()) {
            throw new IllegalArgumentException();
        }
        return behind(found, legs, starts(found)).size();
    }

    boolean ends(int clue, int x, int y) {
        return region(clue(clue)).contains(number(x, y));
    }

    int why(int x, int y) {
        int cell = number(x, y);
        if (data.water.contains(cell)) {
            return -1;
        }
        for (int i = 0; i < data.clues.size(); i++) {
            if (data.clues.get(i).isUsed && !region(data.clues.get(i)).contains(cell)) {
                return i + 1;
            }
        }
        return 0;
    }

    int walk(int clue, int x, int y, int leg) {
        ModelData.Clue found = clue(clue);
        int goal = number(x, y);
        if (leg < 0 || leg >= found.legs.size()) {
            throw new IndexOutOfBoundsException();
        }
        for (char mark : found.starts) {
            List<Integer> paces = firstWalk(found, 0, data.marks.get(mark), goal, new HashSet<>());
            if (paces != null) {
                return paces.get(leg);
            }
        }
        throw new NoSuchElementException();
    }

    private List<Integer> firstWalk(ModelData.Clue clue, int leg, int cell, int goal, Set<Integer> hopeless) {
        if (leg == clue.legs.size()) {
            return cell == goal ? new ArrayList<>() : null;
        }
        if (!hopeless.contains(leg * 400 + cell)) {
            for (var end : ends(clue.legs.get(leg), cell).entrySet()) {
                List<Integer> rest = firstWalk(clue, leg + 1, end.getValue(), goal, hopeless);
                if (rest != null) {
                    rest.add(0, end.getKey());
                    return rest;
                }
            }
        }
        hopeless.add(leg * 400 + cell);
        return null;
    }

    int starts(int clue, int x, int y) {
        ModelData.Clue found = clue(clue);
        int goal = number(x, y);
        int count = 0;
        for (char mark : found.starts) {
            if (behind(found, found.legs.size(), Set.of(data.marks.get(mark))).contains(goal)) {
                count++;
            }
        }
        return count;
    }

    int distance(int x, int y) {
        return hops(data.team, number(x, y));
    }

    private int hops(int from, int to) {
        Set<Integer> seen = new HashSet<>(Set.of(from));
        Set<Integer> rim = seen;
        for (int distance = 0; !rim.isEmpty(); distance++) {
            if (rim.contains(to)) {
                return distance;
            }
            Set<Integer> next = new HashSet<>();
            for (int cell : rim) {
                for (int bearing = 0; bearing < 8; bearing++) {
                    next.add(plainPace(cell, bearing));
                }
            }
            next.remove(-1);
            next.removeAll(seen);
            seen = new HashSet<>(seen);
            seen.addAll(next);
            rim = next;
        }
        return -1;
    }

    int nearest() {
        int nearest = -1;
        int fewest = Integer.MAX_VALUE;
        for (int cell : left()) {
            int distance = hops(data.team, cell);
            if (distance >= 0 && distance < fewest) {
                nearest = cell;
                fewest = distance;
            }
        }
        return nearest;
    }

    int tour() {
        TreeSet<Integer> left = left();
        if (left.size() > 9) {
            return -2;
        }
        for (int cell : left) {
            if (hops(data.team, cell) < 0) {
                return -1;
            }
        }
        List<Integer> stops = new ArrayList<>(left);
        stops.add(data.team);
        int[][] hops = new int[stops.size()][stops.size()];
        for (int i = 0; i < stops.size(); i++) {
            for (int j = 0; j < stops.size(); j++) {
                hops[i][j] = hops(stops.get(i), stops.get(j));
            }
        }
        return bestTour(hops, left.size(), new boolean[left.size()], 0, Integer.MAX_VALUE);
    }

    /** Tries all orders, but for those that are no better than the best one known. */
    private int bestTour(int[][] hops, int at, boolean[] isVisited, int paces, int known) {
        int best = known;
        boolean isWhole = true;
        for (int next = 0; next < isVisited.length; next++) {
            if (!isVisited[next]) {
                isWhole = false;
                int then = paces + hops[at][next];
                if (then < best) {
                    isVisited[next] = true;
                    best = bestTour(hops, next, isVisited, then, best);
                    isVisited[next] = false;
                }
            }
        }
        return isWhole ? Math.min(best, paces) : best;
    }

    private List<Set<Integer>> parts() {
        List<Set<Integer>> parts = new ArrayList<>();
        for (int cell : left()) {
            Set<Integer> joined = new HashSet<>(Set.of(cell));
            List<Set<Integer>> others = new ArrayList<>();
            for (Set<Integer> part : parts) {
                if (part.stream().anyMatch(other -> areNeighbours(cell, other))) {
                    joined.addAll(part);
                } else {
                    others.add(part);
                }
            }
            others.add(joined);
            parts = others;
        }
        return parts;
    }

    private boolean areNeighbours(int cell, int other) {
        return Math.abs(cell % data.width - other % data.width) <= 1
                && Math.abs(cell / data.width - other / data.width) <= 1;
    }

    int part(int x, int y) {
        int cell = number(x, y);
        for (Set<Integer> part : parts()) {
            if (part.contains(cell)) {
                return part.size();
            }
        }
        return 0;
    }

    double meanDistance() {
        double sum = 0;
        double count = 0;
        for (int cell : left()) {
            int distance = hops(data.team, cell);
            if (distance >= 0) {
                sum += distance;
                count++;
            }
        }
        return count == 0 ? 0 : sum / count;
    }

    boolean chestIsLeft() {
        return data.chest == 1 && left().contains(data.chestCell);
    }

    int moveTo(int x, int y) {
        int cell = number(x, y);
        int distance = hops(data.team, cell);
        if (distance >= 0) {
            keep();
            data.team = cell;
            data.paces += distance;
        }
        return distance;
    }

    int dig() {
        keep();
        if (!data.dug.add(data.team)) {
            return 0;
        }
        if (data.chest == 1 && data.chestCell == data.team) {
            data.chest = 2;
            return 2;
        }
        return 1;
    }

    int use(int clue, boolean isUsed) {
        clue(clue);
        keep();
        clue(clue).isUsed = isUsed;
        return left().size();
    }

    int hide(int n) {
        if (n < 0 || n > 9999) {
            throw new IllegalArgumentException();
        }
        keep();
        List<Integer> left = new ArrayList<>(left());
        data.chest = left.isEmpty() ? 0 : 1;
        data.chestCell = left.isEmpty() ? -1 : left.get(n % left.size());
        return left.size();
    }

    int turn(int bend, int turn) {
        if (bend < 0 || bend >= data.bends.size()) {
            throw new IndexOutOfBoundsException();
        }
        if (turn < -3 || turn > 3) {
            throw new IllegalArgumentException();
        }
        keep();
        int previous = data.bends.get(bend).turn;
        data.bends.get(bend).turn = turn;
        return previous;
    }

    int undo() {
        if (past.isEmpty()) {
            return -1;
        }
        data = past.removeLast();
        return past.size();
    }

    long checksum() {
        List<Integer> numbers = new ArrayList<>();
        for (int what = 0; what <= 12; what++) {
            numbers.add(state(what));
        }
        TreeSet<Integer> candidates = candidates();
        for (int cell = 0; cell < data.width * data.height; cell++) {
            int kind = (candidates.contains(cell) ? 3 : 1) + (data.dug.contains(cell) ? 1 : 0);
            numbers.add(data.water.contains(cell) ? 0 : kind);
        }
        for (ModelData.Clue clue : data.clues) {
            numbers.add(clue.isUsed ? 1 : 0);
            for (int legs = 0; legs <= clue.legs.size(); legs++) {
                numbers.add(behind(clue, legs, starts(clue)).size());
            }
        }
        long sum = 0;
        for (int number : numbers) {
            sum = sum * 31 + number;
        }
        return sum;
    }
}
