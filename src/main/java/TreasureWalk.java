import java.util.Arrays;
import java.util.NoSuchElementException;

/**
 * Dead reckoning with uncertain paces: clues tell walks on a map, a chest is where all of them can
 * end, spots are dug, and what is left is told.
 *
 * <p>Inside, a cell is a spot: an index in a grid of rows of 32, in which the map lies with a rim
 * of no land around it. So a pace off the map needs no check of its own, and spots are in the
 * order of the cells' numbers. The spot 0 is on the rim: it stands for no cell.
 *
 * <p>All arrays are made with the object and used again by every call.
 */
public final class TreasureWalk {
    public static final int SYNTAX_ERROR = -2;
    public static final int OUT_OF_RANGE = -3;
    public static final int REPEATED = -4;
    public static final int UNKNOWN = -5;
    public static final int TOO_MANY = -6;
    public static final int WET = -7;

    private static final int MOST_TEXT = 600;
    private static final int BYTES_APPENDED = 20;
    private static final int LONGEST_SIDE = 20;
    private static final int MOST_CELLS = LONGEST_SIDE * LONGEST_SIDE;
    private static final int BEARINGS = 8;
    private static final int MOST_MARKS = 8;
    private static final int MOST_BENDS = 8;
    private static final int SHARPEST_TURN = 3;
    private static final int MOST_CLUES = 4;
    private static final int MOST_LEGS = 8;
    private static final int MOST_GO = 30;
    private static final int MOST_GIVE = 5;
    private static final int MOST_PACES = 60;
    private static final int MOST_UNDONE = 8;
    private static final int MOST_STOPS = 9;
    private static final int TOO_MANY_STOPS = -2;
    private static final int NO_WAY = -1;
    private static final int HIGHEST_HIDE = 9999;

    private static final int ROWS = LONGEST_SIDE + 2;
    private static final int STRIDE_BITS = 5;
    private static final int STRIDE = 1 << STRIDE_BITS;
    private static final int LAST_COLUMN = STRIDE - 1;
    private static final int SPOTS = ROWS * STRIDE;
    private static final int NOWHERE = 0;
    /** From a spot to its neighbours by the bearings: a row is 32 spots. */
    private static final int[] OFFSETS = {-32, -31, 1, 33, 32, 31, -1, -33};

    private static final int GO = 0;
    private static final int TO = 1;
    private static final int END = 2;

    private static final int NO_CHEST = 0;
    private static final int HIDDEN = 1;
    private static final int FOUND = 2;

    private final Data now;
    private final History history;
    private final Reader reader;
    private final Trails trails;
    private final Survey survey;
    private final Tours tours;
    private int errorAt;

    public TreasureWalk() {
        Data data = new Data();
        data.begin(1, 1);
        data.team = spotAt(0, 0);
        Trails dataTrails = new Trails(data);
        Survey dataSurvey = new Survey(data, dataTrails);
        now = data;
        history = new History();
        reader = new Reader();
        trails = dataTrails;
        survey = dataSurvey;
        tours = new Tours(data, dataSurvey);
        errorAt = -1;
    }

    public int append(int w0, int w1, int w2, int w3, int w4) {
        if (reader.textLength + BYTES_APPENDED > MOST_TEXT) {
            return -1;
        }
        reader.addBytes(w0);
        reader.addBytes(w1);
        reader.addBytes(w2);
        reader.addBytes(w3);
        reader.addBytes(w4);
        return reader.textLength;
    }

    public int load(int length) throws IllegalArgumentException {
        if (length < 0 || length > reader.textLength) {
            throw new IllegalArgumentException("the buffer has no such length");
        }
        int error = reader.read(length);
        errorAt = reader.errorAt;
        if (error != 0) {
            return error;
        }
        history.keep(now);
        now.copyFrom(reader.draft);
        trails.renew();
        return now.clues.count;
    }

    public int errorOffset() {
        return errorAt;
    }

    public int state(int what) throws IllegalArgumentException {
        switch (what) {
            case 0:
                return now.width;
            case 1:
                return now.height;
            case 2:
                return now.countMarks();
            case 3:
                return now.bendCount;
            case 4:
                return now.clues.count;
            case 5:
                return now.clues.countUsed();
            case 6:
                return survey.candidates().count();
            case 7:
                return survey.left().count();
            case 8:
                return now.dug.count();
            case 9:
                return survey.countParts();
            case 10:
                return now.numberOf(now.team);
            case 11:
                return now.paces;
            case 12:
                return now.chest;
            default:
                throw new IllegalArgumentException("what is not 0 to 12");
        }
    }

    public int cell(int x, int y) throws IndexOutOfBoundsException {
        int spot = checkedSpot(x, y);
        if (!now.land.has(spot)) {
            return 0;
        }
        int digging = now.dug.has(spot) ? 1 : 0;
        return (survey.candidates().has(spot) ? 3 : 1) + digging;
    }

    public int pace(int x, int y, int bearing)
            throws IndexOutOfBoundsException, IllegalArgumentException {
        int spot = checkedSpot(x, y);
        if (bearing < 0 || bearing >= BEARINGS) {
            throw new IllegalArgumentException("there is no such bearing");
        }
        return now.numberOf(trails.step(spot, bearing));
    }

    public int reached(int clue, int legs)
            throws IndexOutOfBoundsException, IllegalArgumentException {
        checkClue(clue);
        if (legs < 0 || legs > now.clues.legCounts.get(clue)) {
            throw new IllegalArgumentException("the clue has not so many legs");
        }
        return trails.layer(clue, legs).count();
    }

    public boolean ends(int clue, int x, int y) throws IndexOutOfBoundsException {
        checkClue(clue);
        return trails.region(clue).has(checkedSpot(x, y));
    }

    public int why(int x, int y) throws IndexOutOfBoundsException {
        int spot = checkedSpot(x, y);
        return now.land.has(spot) ? survey.clueAgainst(spot) : -1;
    }

    public int walk(int clue, int x, int y, int leg)
            throws IndexOutOfBoundsException, NoSuchElementException {
        checkClue(clue);
        int spot = checkedSpot(x, y);
        if (leg < 0 || leg >= now.clues.legCounts.get(clue)) {
            throw new IndexOutOfBoundsException("the clue has no such leg");
        }
        if (!trails.region(clue).has(spot)) {
            throw new NoSuchElementException("no walk of the clue ends there");
        }
        return trails.firstWalkPaces(clue, spot, leg);
    }

    public int starts(int clue, int x, int y) throws IndexOutOfBoundsException {
        checkClue(clue);
        return trails.countStarts(clue, checkedSpot(x, y));
    }

    public int distance(int x, int y) throws IndexOutOfBoundsException {
        int spot = checkedSpot(x, y);
        return survey.distancesFrom(now.team).get(spot);
    }

    public int nearest() {
        return now.numberOf(survey.nearestLeft());
    }

    public int tour() {
        return tours.shortest();
    }

    public int part(int x, int y) throws IndexOutOfBoundsException {
        return survey.partSize(checkedSpot(x, y));
    }

    public double meanDistance() {
        return survey.meanOfLeft();
    }

    public boolean chestIsLeft() {
        return now.chest == HIDDEN && survey.left().has(now.chestSpot);
    }

    public int moveTo(int x, int y) throws IndexOutOfBoundsException {
        int spot = checkedSpot(x, y);
        int paces = survey.distancesFrom(now.team).get(spot);
        if (paces < 0) {
            return NO_WAY;
        }
        history.keep(now);
        now.team = spot;
        now.paces += paces;
        return paces;
    }

    public int dig() {
        history.keep(now);
        if (now.dug.has(now.team)) {
            return 0;
        }
        now.dug.add(now.team);
        if (now.chest != HIDDEN || now.chestSpot != now.team) {
            return 1;
        }
        now.chest = FOUND;
        return 2;
    }

    public int use(int clue, boolean isUsed) throws IndexOutOfBoundsException {
        checkClue(clue);
        history.keep(now);
        now.clues.used.put(clue, isUsed ? 1 : 0);
        return survey.left().count();
    }

    public int hide(int n) throws IllegalArgumentException {
        if (n < 0 || n > HIGHEST_HIDE) {
            throw new IllegalArgumentException("n is not 0 to 9999");
        }
        history.keep(now);
        Cells left = survey.left();
        int count = left.count();
        now.chest = count > 0 ? HIDDEN : NO_CHEST;
        now.chestSpot = count > 0 ? left.at(n % count) : NOWHERE;
        return count;
    }

    public int turn(int bend, int turn)
            throws IndexOutOfBoundsException, IllegalArgumentException {
        if (bend < 0 || bend >= now.bendCount) {
            throw new IndexOutOfBoundsException("there is no such bend");
        }
        if (turn < -SHARPEST_TURN || turn > SHARPEST_TURN) {
            throw new IllegalArgumentException("turn is not -3 to 3");
        }
        history.keep(now);
        int previous = now.bendTurns.get(bend);
        now.bendTurns.put(bend, turn);
        trails.renew();
        return previous;
    }

    public int undo() {
        if (!history.takeBack(now)) {
            return -1;
        }
        trails.renew();
        return history.count;
    }

    public long checksum() {
        long sum = 0;
        for (int what = 0; what <= 12; what++) {
            sum = 31 * sum + state(what);
        }
        for (int y = 0; y < now.height; y++) {
            for (int x = 0; x < now.width; x++) {
                sum = 31 * sum + cell(x, y);
            }
        }
        for (int clue = 0; clue < now.clues.count; clue++) {
            sum = 31 * sum + (now.clues.isUsed(clue) ? 1 : 0);
            for (int legs = 0; legs <= now.clues.legCounts.get(clue); legs++) {
                sum = 31 * sum + reached(clue, legs);
            }
        }
        return sum;
    }

    private int checkedSpot(int x, int y) {
        if (x < 0 || x >= now.width || y < 0 || y >= now.height) {
            throw new IndexOutOfBoundsException("there is no such cell");
        }
        return spotAt(x, y);
    }

    private void checkClue(int clue) {
        if (clue < 0 || clue >= now.clues.count) {
            throw new IndexOutOfBoundsException("there is no such clue");
        }
    }

    private static int spotAt(int x, int y) {
        return (y + 1) * STRIDE + x + 1;
    }

    private static int columnOf(int spot) {
        return spot & LAST_COLUMN;
    }

    private static int rowOf(int spot) {
        return spot >> STRIDE_BITS;
    }

    private static int neighbour(int spot, int bearing) {
        int index = bearing & 7;
        return index < OFFSETS.length ? spot + OFFSETS[index] : NOWHERE;
    }

    /** Whether a spot is in the rectangle that has the spots first and last for corners. */
    private static boolean isBetween(int first, int last, int spot) {
        return columnOf(spot) >= columnOf(first) && columnOf(spot) <= columnOf(last)
                && rowOf(spot) >= rowOf(first) && rowOf(spot) <= rowOf(last);
    }

    /** A row of numbers that looks at each index: outside it there are zeros that stay. */
    private static final class Row {
        private final int[] numbers;

        Row(int length) {
            numbers = new int[length > 0 ? length : 0];
        }

        int get(int index) {
            return index >= 0 && index < numbers.length ? numbers[index] : 0;
        }

        void put(int index, int number) {
            if (index >= 0 && index < numbers.length) {
                numbers[index] = number;
            }
        }

        void fill(int number) {
            Arrays.fill(numbers, number);
        }

        void copyFrom(Row other) {
            int length = Math.min(numbers.length, other.numbers.length);
            System.arraycopy(other.numbers, 0, numbers, 0, length);
        }
    }

    /** A set of spots: a bit for each, and a number for each row of the grid. */
    private static final class Cells {
        private final int[] rows = new int[ROWS];

        boolean has(int spot) {
            int row = spot >> STRIDE_BITS;
            return row >= 0 && row < rows.length && (rows[row] >>> (spot & LAST_COLUMN) & 1) == 1;
        }

        void add(int spot) {
            int row = spot >> STRIDE_BITS;
            if (row >= 0 && row < rows.length) {
                rows[row] |= 1 << (spot & LAST_COLUMN);
            }
        }

        void remove(int spot) {
            int row = spot >> STRIDE_BITS;
            if (row >= 0 && row < rows.length) {
                rows[row] &= ~(1 << (spot & LAST_COLUMN));
            }
        }

        void clear() {
            Arrays.fill(rows, 0);
        }

        int count() {
            int count = 0;
            for (int row : rows) {
                count += Integer.bitCount(row);
            }
            return count;
        }

        /** Returns the member with a place, from 0; NOWHERE if there is none. */
        int at(int place) {
            int before = 0;
            for (int spot = 0; spot < SPOTS; spot++) {
                if (has(spot)) {
                    if (before == place) {
                        return spot;
                    }
                    before++;
                }
            }
            return NOWHERE;
        }

        void keepOnly(Cells other) {
            for (int row = 0; row < rows.length && row < other.rows.length; row++) {
                rows[row] &= other.rows[row];
            }
        }

        void removeAll(Cells other) {
            for (int row = 0; row < rows.length && row < other.rows.length; row++) {
                rows[row] &= ~other.rows[row];
            }
        }

        void copyFrom(Cells other) {
            System.arraycopy(other.rows, 0, rows, 0, Math.min(rows.length, other.rows.length));
        }
    }

    /** Sets of spots by an index that is looked at: outside there is one that stays empty. */
    private static final class Layers {
        private final Cells[] sets;
        private final Cells outside = new Cells();

        Layers(int length) {
            sets = new Cells[length > 0 ? length : 0];
            for (int i = 0; i < sets.length; i++) {
                sets[i] = new Cells();
            }
        }

        Cells at(int index) {
            Cells found = index >= 0 && index < sets.length ? sets[index] : null;
            return found == null ? outside : found;
        }

        void clear() {
            for (int i = 0; i < sets.length; i++) {
                at(i).clear();
            }
        }
    }

    /** The clues as they are told: those of a clue's starts and legs stand in rows of 8 for each. */
    private static final class Clues {
        private int count;
        private final Row used = new Row(MOST_CLUES);
        private final Row startCounts = new Row(MOST_CLUES);
        private final Row starts = new Row(MOST_CLUES * MOST_MARKS);
        private final Row legCounts = new Row(MOST_CLUES);
        private final Row kinds = new Row(MOST_CLUES * MOST_LEGS);
        private final Row bearings = new Row(MOST_CLUES * MOST_LEGS);
        private final Row fewestPaces = new Row(MOST_CLUES * MOST_LEGS);
        private final Row mostPaces = new Row(MOST_CLUES * MOST_LEGS);
        private final Row goals = new Row(MOST_CLUES * MOST_LEGS);

        void clear() {
            count = 0;
            startCounts.fill(0);
            legCounts.fill(0);
        }

        boolean isUsed(int clue) {
            return used.get(clue) == 1;
        }

        int countUsed() {
            int sum = 0;
            for (int clue = 0; clue < count; clue++) {
                sum += isUsed(clue) ? 1 : 0;
            }
            return sum;
        }

        int startMark(int clue, int place) {
            return starts.get(clue * MOST_MARKS + place);
        }

        boolean hasStart(int clue, int mark) {
            for (int place = 0; place < startCounts.get(clue); place++) {
                if (startMark(clue, place) == mark) {
                    return true;
                }
            }
            return false;
        }

        void addStart(int clue, int mark) {
            int place = startCounts.get(clue);
            starts.put(clue * MOST_MARKS + place, mark);
            startCounts.put(clue, place + 1);
        }

        void copyFrom(Clues other) {
            count = other.count;
            used.copyFrom(other.used);
            startCounts.copyFrom(other.startCounts);
            starts.copyFrom(other.starts);
            legCounts.copyFrom(other.legCounts);
            kinds.copyFrom(other.kinds);
            bearings.copyFrom(other.bearings);
            fewestPaces.copyFrom(other.fewestPaces);
            mostPaces.copyFrom(other.mostPaces);
            goals.copyFrom(other.goals);
        }
    }

    /** All that a load replaces and that changes change. */
    private static final class Data {
        private int width;
        private int height;
        private final Cells land = new Cells();
        private final Cells dug = new Cells();
        private final Row marks = new Row(MOST_MARKS);
        private int bendCount;
        private final Row bendFirsts = new Row(MOST_BENDS);
        private final Row bendLasts = new Row(MOST_BENDS);
        private final Row bendTurns = new Row(MOST_BENDS);
        private final Clues clues = new Clues();
        private int team;
        private int paces;
        private int chest;
        private int chestSpot;

        /** Begins a map that is all land, and on which nothing stands. */
        void begin(int mapWidth, int mapHeight) {
            width = mapWidth;
            height = mapHeight;
            land.clear();
            for (int y = 0; y < height && y < LONGEST_SIDE; y++) {
                for (int x = 0; x < width && x < LONGEST_SIDE; x++) {
                    land.add(spotAt(x, y));
                }
            }
            dug.clear();
            marks.fill(NOWHERE);
            bendCount = 0;
            clues.clear();
            team = NOWHERE;
            paces = 0;
            chest = NO_CHEST;
            chestSpot = NOWHERE;
        }

        int numberOf(int spot) {
            return spot == NOWHERE ? -1 : (rowOf(spot) - 1) * width + columnOf(spot) - 1;
        }

        int countMarks() {
            int count = 0;
            for (int mark = 0; mark < MOST_MARKS; mark++) {
                count += marks.get(mark) == NOWHERE ? 0 : 1;
            }
            return count;
        }

        boolean standsOnMark(int first, int last) {
            for (int mark = 0; mark < MOST_MARKS; mark++) {
                if (isBetween(first, last, marks.get(mark))) {
                    return true;
                }
            }
            return false;
        }

        void flood(int first, int last) {
            for (int spot = first; spot <= last && spot < SPOTS; spot++) {
                if (isBetween(first, last, spot)) {
                    land.remove(spot);
                }
            }
        }

        void addBend(int first, int last, int turn) {
            bendFirsts.put(bendCount, first);
            bendLasts.put(bendCount, last);
            bendTurns.put(bendCount, turn);
            bendCount++;
        }

        void copyFrom(Data other) {
            width = other.width;
            height = other.height;
            land.copyFrom(other.land);
            dug.copyFrom(other.dug);
            marks.copyFrom(other.marks);
            bendCount = other.bendCount;
            bendFirsts.copyFrom(other.bendFirsts);
            bendLasts.copyFrom(other.bendLasts);
            bendTurns.copyFrom(other.bendTurns);
            clues.copyFrom(other.clues);
            team = other.team;
            paces = other.paces;
            chest = other.chest;
            chestSpot = other.chestSpot;
        }
    }

    /** The data as they were ahead of each of the latest changes; the oldest one is overwritten. */
    private static final class History {
        private final Data[] kept = new Data[MOST_UNDONE];
        private int next;
        private int count;

        History() {
            for (int i = 0; i < kept.length; i++) {
                kept[i] = new Data();
            }
        }

        void keep(Data data) {
            Data place = placeAt(next);
            if (place != null) {
                place.copyFrom(data);
            }
            next = (next + 1) % MOST_UNDONE;
            count = Math.min(count + 1, MOST_UNDONE);
        }

        boolean takeBack(Data data) {
            if (count <= 0) {
                return false;
            }
            next = (next + MOST_UNDONE - 1) % MOST_UNDONE;
            count--;
            Data place = placeAt(next);
            if (place != null) {
                data.copyFrom(place);
            }
            return true;
        }

        private Data placeAt(int index) {
            return index >= 0 && index < kept.length ? kept[index] : null;
        }
    }

    /**
     * Holds the input buffer and reads a setup text from it into a draft. Only the error that is
     * found first counts, and reading goes on without harm behind it: so each function may read on
     * as if there were none. An error is found ahead of all that have a greater offset.
     */
    private static final class Reader {
        private static final int NOTHING = 0;
        private static final int WORD = 1;
        private static final int NUMBER = 2;
        private static final int SIGN = 3;
        /** Above every range: a number of any length is held as this or less. */
        private static final int TOO_HIGH = 1000;

        private final Row text = new Row(MOST_TEXT);
        private int textLength;
        private final Data draft = new Data();
        private int length;
        private int start;
        private int end;
        private int kind;
        private int error;
        private int errorAt;
        private int areaFirst;
        private int areaLast;

        void addBytes(int word) {
            for (int shift = 24; shift >= 0; shift -= 8) {
                text.put(textLength, word >>> shift & 255);
                textLength++;
            }
        }

        /**
         * Reads the first bytes and empties the buffer. Returns 0, or the code of the first error;
         * its offset is errorAt, which is -1 if there is none.
         */
        int read(int bytes) {
            length = bytes;
            textLength = 0;
            end = 0;
            error = 0;
            errorAt = -1;
            advance();
            readMap();
            for (int i = 0; i < MOST_TEXT && error == 0 && kind != NOTHING; i++) {
                if (isWord("water")) {
                    readWater();
                } else if (isWord("bend")) {
                    readBend();
                } else if (isWord("mark")) {
                    readMark();
                } else if (isWord("team")) {
                    readTeam();
                } else if (isWord("clue")) {
                    readClue();
                } else {
                    fail(SYNTAX_ERROR, start);
                }
            }
            if (draft.team == NOWHERE) {
                draft.team = draft.land.at(0);
            }
            return error;
        }

        private void readMap() {
            takeWord("walk");
            int width = takeNumber(1, LONGEST_SIDE);
            int height = takeNumber(1, LONGEST_SIDE);
            takeSemicolon();
            draft.begin(width, height);
        }

        private void readWater() {
            advance();
            int offset = start;
            readArea();
            if (draft.standsOnMark(areaFirst, areaLast)
                    || isBetween(areaFirst, areaLast, draft.team)) {
                fail(WET, offset);
            }
            draft.flood(areaFirst, areaLast);
            offset = start;
            takeSemicolon();
            if (draft.land.count() == 0) {
                fail(WET, offset);
            }
        }

        private void readBend() {
            if (draft.bendCount >= MOST_BENDS) {
                fail(TOO_MANY, start);
            }
            advance();
            readArea();
            boolean isLeft = isWord("left");
            if (isLeft) {
                advance();
            } else {
                takeWord("right");
            }
            int turn = takeNumber(1, SHARPEST_TURN);
            takeSemicolon();
            draft.addBend(areaFirst, areaLast, isLeft ? -turn : turn);
        }

        private void readMark() {
            advance();
            int mark = markAhead();
            if (draft.marks.get(mark) != NOWHERE) {
                fail(REPEATED, start);
            }
            advance();
            draft.marks.put(mark, takeLandSpot());
            takeSemicolon();
        }

        private void readTeam() {
            if (draft.team != NOWHERE) {
                fail(SYNTAX_ERROR, start);
            }
            advance();
            draft.team = takeLandSpot();
            takeSemicolon();
        }

        private void readClue() {
            Clues clues = draft.clues;
            if (clues.count >= MOST_CLUES) {
                fail(TOO_MANY, start);
            }
            advance();
            takeStart();
            for (int i = 0; i < MOST_MARKS && isWord("or"); i++) {
                advance();
                takeStart();
            }
            for (int i = 0; i <= MOST_LEGS && isLegAhead(); i++) {
                readLeg();
            }
            takeSemicolon();
            clues.used.put(clues.count, 1);
            clues.count++;
        }

        private void takeStart() {
            int offset = start;
            int mark = takeKnownMark();
            if (draft.clues.hasStart(draft.clues.count, mark)) {
                fail(REPEATED, offset);
            }
            draft.clues.addStart(draft.clues.count, mark);
        }

        private boolean isLegAhead() {
            return isWord("go") || isWord("to") || isWord("end");
        }

        private void readLeg() {
            Clues clues = draft.clues;
            int place = clues.legCounts.get(clues.count);
            if (place >= MOST_LEGS) {
                fail(TOO_MANY, start);
            }
            int leg = clues.count * MOST_LEGS + place;
            int legKind = isWord("go") ? GO : isWord("to") ? TO : END;
            advance();
            int number = legKind == GO ? takeNumber(0, MOST_GO) : 0;
            int goal = legKind == TO ? draft.marks.get(takeKnownMark()) : NOWHERE;
            int bearing = takeBearing();
            int give = 0;
            if (legKind == GO && isWord("give")) {
                advance();
                give = takeNumber(0, MOST_GIVE);
            }
            clues.kinds.put(leg, legKind);
            clues.bearings.put(leg, bearing);
            clues.goals.put(leg, goal);
            clues.fewestPaces.put(leg, Math.max(0, number - give));
            // an end leg that can make the 60th pace ends nowhere, so 59 are its most
            clues.mostPaces.put(leg, legKind == GO ? number + give
                    : legKind == TO ? MOST_PACES : MOST_PACES - 1);
            clues.legCounts.put(clues.count, place + 1);
        }

        private void readArea() {
            int firstX = takeNumber(0, draft.width - 1);
            int firstY = takeNumber(0, draft.height - 1);
            int lastX = takeNumber(firstX, draft.width - 1);
            int lastY = takeNumber(firstY, draft.height - 1);
            areaFirst = spotAt(firstX, firstY);
            areaLast = spotAt(lastX, lastY);
        }

        private int takeLandSpot() {
            int offset = start;
            int x = takeNumber(0, draft.width - 1);
            int y = takeNumber(0, draft.height - 1);
            int spot = spotAt(x, y);
            if (!draft.land.has(spot)) {
                fail(WET, offset);
            }
            return spot;
        }

        private int takeKnownMark() {
            int mark = markAhead();
            if (draft.marks.get(mark) == NOWHERE) {
                fail(UNKNOWN, start);
            }
            advance();
            return mark;
        }

        /** Returns the index of the mark that the token is; -1 with an error if it is none. */
        private int markAhead() {
            int mark = text.get(start) - 'a';
            if (kind == WORD && end - start == 1 && mark < MOST_MARKS) {
                return mark;
            }
            fail(SYNTAX_ERROR, start);
            return -1;
        }

        private int takeBearing() {
            int bearing = isWord("n") ? 0 : isWord("ne") ? 1 : isWord("e") ? 2 : isWord("se") ? 3
                    : isWord("s") ? 4 : isWord("sw") ? 5 : isWord("w") ? 6 : isWord("nw") ? 7 : -1;
            if (bearing < 0) {
                fail(SYNTAX_ERROR, start);
            }
            advance();
            return bearing;
        }

        /** Returns the number that the token is; with an error if it is none or out of range. */
        private int takeNumber(int least, int most) {
            if (kind != NUMBER) {
                fail(SYNTAX_ERROR, start);
                return least;
            }
            int number = 0;
            for (int i = start; i < end; i++) {
                number = Math.min(TOO_HIGH, 10 * number + text.get(i) - '0');
            }
            if (number < least || number > most) {
                fail(OUT_OF_RANGE, start);
                return least;
            }
            advance();
            return number;
        }

        private void takeWord(String word) {
            if (!isWord(word)) {
                fail(SYNTAX_ERROR, start);
            }
            advance();
        }

        private void takeSemicolon() {
            if (kind != SIGN || text.get(start) != ';') {
                fail(SYNTAX_ERROR, start);
            }
            advance();
        }

        private boolean isWord(String word) {
            if (kind != WORD || end - start != word.length()) {
                return false;
            }
            for (int i = 0; i < word.length(); i++) {
                if (text.get(start + i) != word.charAt(i)) {
                    return false;
                }
            }
            return true;
        }

        /** Goes to the next token: its bytes are those from start to before end. */
        private void advance() {
            start = end;
            while (start < length && text.get(start) == ' ') {
                start++;
            }
            kind = start < length ? kindOf(text.get(start)) : NOTHING;
            end = start < length ? start + 1 : length;
            while (kind != SIGN && end < length && kindOf(text.get(end)) == kind) {
                end++;
            }
        }

        private static int kindOf(int sign) {
            if (sign >= 'a' && sign <= 'z') {
                return WORD;
            }
            return sign >= '0' && sign <= '9' ? NUMBER : SIGN;
        }

        private void fail(int code, int offset) {
            if (error == 0) {
                error = code;
                errorAt = offset;
            }
        }
    }

    /** Where the paces and the legs of the clues lead, with the bends and clues of the data. */
    private static final class Trails {
        private final Data data;
        private final Row twists = new Row(SPOTS);
        /** For each clue and number of legs: where the first so many legs can end. */
        private final Layers layers = new Layers(MOST_CLUES * (MOST_LEGS + 1));
        /** For each number of legs: from where the legs behind them lead to the goal. */
        private final Layers ways = new Layers(MOST_LEGS + 1);

        Trails(Data data) {
            this.data = data;
        }

        /** To be called whenever the map, the bends or the clues of the data are others. */
        void renew() {
            twists.fill(0);
            for (int bend = 0; bend < data.bendCount; bend++) {
                twist(bend);
            }
            layers.clear();
            for (int clue = 0; clue < data.clues.count; clue++) {
                follow(clue);
            }
        }

        private void twist(int bend) {
            int first = data.bendFirsts.get(bend);
            int last = data.bendLasts.get(bend);
            for (int spot = first; spot <= last && spot < SPOTS; spot++) {
                if (isBetween(first, last, spot)) {
                    twists.put(spot, twists.get(spot) + data.bendTurns.get(bend));
                }
            }
        }

        /** The spot to which a pace leads, with all bends; NOWHERE if it cannot be made. */
        int step(int spot, int bearing) {
            int next = neighbour(spot, bearing + twists.get(spot));
            return data.land.has(next) ? next : NOWHERE;
        }

        private void follow(int clue) {
            for (int place = 0; place < data.clues.startCounts.get(clue); place++) {
                layer(clue, 0).add(startSpot(clue, place));
            }
            for (int leg = 0; leg < data.clues.legCounts.get(clue); leg++) {
                for (int spot = 0; spot < SPOTS; spot++) {
                    if (layer(clue, leg).has(spot)) {
                        followLeg(clue, leg, spot);
                    }
                }
            }
        }

        private void followLeg(int clue, int leg, int from) {
            int index = clue * MOST_LEGS + leg;
            int most = data.clues.mostPaces.get(index);
            int spot = from;
            for (int paces = 0; paces <= most && spot != NOWHERE; paces++) {
                if (canEnd(index, spot, paces)) {
                    layer(clue, leg + 1).add(spot);
                }
                spot = step(spot, data.clues.bearings.get(index));
            }
        }

        /** Whether a leg can end on the spot at which it is after so many paces, up to its most. */
        private boolean canEnd(int index, int spot, int paces) {
            Clues clues = data.clues;
            int kind = clues.kinds.get(index);
            if (kind == GO) {
                return paces >= clues.fewestPaces.get(index);
            } else if (kind == TO) {
                return spot == clues.goals.get(index);
            } else {
                return step(spot, clues.bearings.get(index)) == NOWHERE;
            }
        }

        private int startSpot(int clue, int place) {
            return data.marks.get(data.clues.startMark(clue, place));
        }

        /** The set of the spots at which the first so many legs of a clue can end. */
        Cells layer(int clue, int legs) {
            return layers.at(clue * (MOST_LEGS + 1) + legs);
        }

        Cells region(int clue) {
            return layers.at(clue * (MOST_LEGS + 1) + data.clues.legCounts.get(clue));
        }

        int countStarts(int clue, int goal) {
            findWays(clue, goal);
            int count = 0;
            for (int place = 0; place < data.clues.startCounts.get(clue); place++) {
                count += ways.at(0).has(startSpot(clue, place)) ? 1 : 0;
            }
            return count;
        }

        /** The paces of a leg in the first walk of a clue that ends at a goal in its region. */
        int firstWalkPaces(int clue, int goal, int leg) {
            findWays(clue, goal);
            int spot = firstStart(clue);
            for (int ahead = 0; ahead < leg; ahead++) {
                spot = spotBehind(clue, ahead, spot, fewestPaces(clue, ahead, spot));
            }
            return fewestPaces(clue, leg, spot);
        }

        private int firstStart(int clue) {
            for (int place = 0; place < data.clues.startCounts.get(clue); place++) {
                if (ways.at(0).has(startSpot(clue, place))) {
                    return startSpot(clue, place);
                }
            }
            return NOWHERE;
        }

        private void findWays(int clue, int goal) {
            int legs = data.clues.legCounts.get(clue);
            ways.clear();
            ways.at(legs).add(goal);
            for (int leg = legs - 1; leg >= 0; leg--) {
                for (int spot = 0; spot < SPOTS; spot++) {
                    if (layer(clue, leg).has(spot) && fewestPaces(clue, leg, spot) >= 0) {
                        ways.at(leg).add(spot);
                    }
                }
            }
        }

        /** The fewest paces of a leg behind which the rest leads to the goal; -1 if there are none. */
        private int fewestPaces(int clue, int leg, int from) {
            int index = clue * MOST_LEGS + leg;
            int most = data.clues.mostPaces.get(index);
            int spot = from;
            for (int paces = 0; paces <= most && spot != NOWHERE; paces++) {
                if (ways.at(leg + 1).has(spot) && canEnd(index, spot, paces)) {
                    return paces;
                }
                spot = step(spot, data.clues.bearings.get(index));
            }
            return -1;
        }

        private int spotBehind(int clue, int leg, int from, int paces) {
            int bearing = data.clues.bearings.get(clue * MOST_LEGS + leg);
            int spot = from;
            for (int i = 0; i < paces; i++) {
                spot = step(spot, bearing);
            }
            return spot;
        }
    }

    /** Distances over a ground: a search by neighbours, the nearest ones first. */
    private static final class Flood {
        private final Row distances = new Row(SPOTS);
        private final Row queue = new Row(MOST_CELLS);

        void clear() {
            distances.fill(-1);
        }

        /** Measures all to which one can come, and returns their number; the others stay as they are. */
        int spread(Cells ground, int from) {
            distances.put(from, 0);
            queue.put(0, from);
            int size = 1;
            for (int i = 0; i < size && i < MOST_CELLS; i++) {
                size = visitNeighbours(ground, queue.get(i), size);
            }
            return size;
        }

        private int visitNeighbours(Cells ground, int spot, int queued) {
            int size = queued;
            for (int bearing = 0; bearing < BEARINGS; bearing++) {
                int next = neighbour(spot, bearing);
                if (ground.has(next) && distances.get(next) < 0) {
                    distances.put(next, distances.get(spot) + 1);
                    queue.put(size, next);
                    size++;
                }
            }
            return size;
        }
    }

    /** The candidates, those that are left, their parts and the ways to them. */
    private static final class Survey {
        private final Data data;
        private final Trails trails;
        private final Flood flood = new Flood();
        private final Cells chosen = new Cells();

        Survey(Data data, Trails trails) {
            this.data = data;
            this.trails = trails;
        }

        /** Returns 1 more than the first clue in use whose region has not the spot; 0 if none. */
        int clueAgainst(int spot) {
            for (int clue = 0; clue < data.clues.count; clue++) {
                if (data.clues.isUsed(clue) && !trails.region(clue).has(spot)) {
                    return clue + 1;
                }
            }
            return 0;
        }

        /** The candidates: a set that stands until the next one is asked for here or below. */
        Cells candidates() {
            chosen.copyFrom(data.land);
            for (int clue = 0; clue < data.clues.count; clue++) {
                if (data.clues.isUsed(clue)) {
                    chosen.keepOnly(trails.region(clue));
                }
            }
            return chosen;
        }

        Cells left() {
            candidates().removeAll(data.dug);
            return chosen;
        }

        int countParts() {
            Cells left = left();
            flood.clear();
            int parts = 0;
            for (int spot = 0; spot < SPOTS; spot++) {
                if (left.has(spot) && flood.distances.get(spot) < 0) {
                    flood.spread(left, spot);
                    parts++;
                }
            }
            return parts;
        }

        int partSize(int spot) {
            Cells left = left();
            flood.clear();
            return left.has(spot) ? flood.spread(left, spot) : 0;
        }

        /** The distances over the land, -1 where there is no way: they stand until the next flood. */
        Row distancesFrom(int spot) {
            flood.clear();
            flood.spread(data.land, spot);
            return flood.distances;
        }

        int nearestLeft() {
            Cells left = left();
            Row distances = distancesFrom(data.team);
            int nearest = NOWHERE;
            for (int spot = 0; spot < SPOTS; spot++) {
                int distance = left.has(spot) ? distances.get(spot) : -1;
                if (distance >= 0 && (nearest == NOWHERE || distance < distances.get(nearest))) {
                    nearest = spot;
                }
            }
            return nearest;
        }

        double meanOfLeft() {
            Cells left = left();
            Row distances = distancesFrom(data.team);
            int sum = 0;
            int count = 0;
            for (int spot = 0; spot < SPOTS; spot++) {
                if (left.has(spot) && distances.get(spot) >= 0) {
                    sum += distances.get(spot);
                    count++;
                }
            }
            return count > 0 ? (double) sum / (double) count : 0.0;
        }
    }

    /** The shortest tour over what is left: for each set of stops the best way to end at each. */
    private static final class Tours {
        private static final int SETS = 1 << MOST_STOPS;
        /** More than the paces of any tour: each of its nine hops has less than 400. */
        private static final int NO_TOUR_YET = 1000000;

        private final Data data;
        private final Survey survey;
        private int count;
        private final Row stops = new Row(MOST_STOPS);
        /** The paces from stop to stop, and in the row behind them those from the team. */
        private final Row hops = new Row((MOST_STOPS + 1) * MOST_STOPS);
        private final Row best = new Row(SETS * MOST_STOPS);

        Tours(Data data, Survey survey) {
            this.data = data;
            this.survey = survey;
        }

        /** Returns the paces of the shortest tour, or NO_WAY or TOO_MANY_STOPS. */
        int shortest() {
            Cells left = survey.left();
            count = left.count();
            if (count == 0) {
                return 0;
            }
            if (count > MOST_STOPS) {
                return TOO_MANY_STOPS;
            }
            for (int stop = 0; stop < count; stop++) {
                stops.put(stop, left.at(stop));
            }
            for (int stop = 0; stop < count; stop++) {
                measureHops(stop, stops.get(stop));
            }
            if (!measureHops(count, data.team)) {
                return NO_WAY;
            }
            return joinHops();
        }

        /** Returns whether there is a way to each stop. */
        private boolean measureHops(int row, int from) {
            Row distances = survey.distancesFrom(from);
            boolean isOpen = true;
            for (int stop = 0; stop < count; stop++) {
                int distance = distances.get(stops.get(stop));
                hops.put(row * MOST_STOPS + stop, distance);
                isOpen = isOpen && distance >= 0;
            }
            return isOpen;
        }

        private int joinHops() {
            int all = (1 << count) - 1;
            for (int set = 1; set <= all && set < SETS; set++) {
                for (int last = 0; last < count; last++) {
                    if ((set >> last & 1) == 1) {
                        best.put(set * MOST_STOPS + last, fewestTo(set, last));
                    }
                }
            }
            int fewest = best.get(all * MOST_STOPS);
            for (int last = 1; last < count; last++) {
                fewest = Math.min(fewest, best.get(all * MOST_STOPS + last));
            }
            return fewest;
        }

        /** The fewest paces over all stops of a set, with a certain one of them as the last. */
        private int fewestTo(int set, int last) {
            int rest = set & ~(1 << last);
            if (rest == 0) {
                return hops.get(count * MOST_STOPS + last);
            }
            int fewest = NO_TOUR_YET;
            for (int stop = 0; stop < count; stop++) {
                if ((rest >> stop & 1) == 1) {
                    int hop = hops.get(stop * MOST_STOPS + last);
                    fewest = Math.min(fewest, best.get(rest * MOST_STOPS + stop) + hop);
                }
            }
            return fewest;
        }
    }
}
