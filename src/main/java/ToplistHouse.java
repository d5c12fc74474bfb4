import java.util.Arrays;
import java.util.NoSuchElementException;

/** A house of toplists. The promises of each call stand in ../shared/DOC.md. */
public final class ToplistHouse {
    public static final int NONE = -1;
    public static final int SUM = 0, LEAST = 1, GREATEST = 2;

    private static final int ROWS = 5;
    private static final int THINGS = 20;
    private static final int ITEMS = ROWS * THINGS;
    private static final int MOST_MARK = 99;
    private static final int MOST_WEIGHT = 5;
    private static final int MOST_COST = 99;
    private static final int MOST_WIDTH = 10;
    private static final int MOST_COUNTERS = 4;
    private static final int MOST_NUMBER = 99;
    private static final int MOST_CANDIDATES = 6;
    private static final int MOST_UNDOS = 8;
    private static final int THOUSAND = 1000;

    /** Row, thing and mark of each item of a new house. */
    private static final int[] FIRST_ITEMS = {
        0, 0, 90, 0, 1, 80, 0, 2, 70, 0, 3, 10,
        1, 1, 85, 1, 2, 75, 1, 0, 20,
        2, 2, 95, 2, 0, 60, 2, 4, 50
    };

    private final State state;
    private final History history;
    private final Rows trial;
    private final Ranking ranking;
    private final Ranking trialRanking;
    private final Reader reader;
    private final Merger merger;
    private final Votes votes;
    private final Pairs pairs;

    public ToplistHouse() {
        state = new State();
        history = new History();
        trial = new Rows();
        ranking = new Ranking();
        trialRanking = new Ranking();
        reader = new Reader();
        merger = new Merger();
        votes = new Votes();
        pairs = new Pairs();
        for (int i = 0; i + 2 < FIRST_ITEMS.length; i += 3) {
            state.rows.setMark(FIRST_ITEMS[i], FIRST_ITEMS[i + 1], FIRST_ITEMS[i + 2]);
        }
    }

    // ---- Changes

    public int put(int row, int thing, int mark) throws IndexOutOfBoundsException, IllegalArgumentException {
        requireRow(row);
        requireThing(thing);
        requireRange(mark, 0, MOST_MARK);
        history.save(state);
        int before = state.rows.markOf(row, thing);
        state.rows.setMark(row, thing, mark);
        return before;
    }

    public int drop(int row, int thing) throws IndexOutOfBoundsException, NoSuchElementException {
        requireRow(row);
        requireThing(thing);
        int before = state.rows.markOf(row, thing);
        requireFound(before != NONE);
        history.save(state);
        state.rows.setMark(row, thing, NONE);
        return before;
    }

    public int setWeight(int row, int weight) throws IndexOutOfBoundsException, IllegalArgumentException {
        requireRow(row);
        requireRange(weight, 0, MOST_WEIGHT);
        history.save(state);
        return state.rows.changeWeight(row, weight);
    }

    public int setRule(int rule) throws IllegalArgumentException {
        requireRange(rule, SUM, GREATEST);
        history.save(state);
        int before = state.rows.rule;
        state.rows.rule = rule;
        return before;
    }

    public int setCosts(int read, int ask) throws IllegalArgumentException {
        requireRange(read, 0, MOST_COST);
        requireRange(ask, 0, MOST_COST);
        history.save(state);
        int before = 100 * state.readCost + state.askCost;
        state.readCost = read;
        state.askCost = ask;
        return before;
    }

    public int setWindow(int width, int counters) throws IllegalArgumentException {
        requireRange(width, 1, MOST_WIDTH);
        requireRange(counters, 1, MOST_COUNTERS);
        history.save(state);
        int before = state.numbers.total;
        state.numbers.beginAnew(width, counters);
        return before;
    }

    public int push(int number) throws IllegalArgumentException {
        requireRange(number, 0, MOST_NUMBER);
        history.save(state);
        return state.numbers.take(number);
    }

    // ---- Undo

    public int undo() {
        return history.restore(state);
    }

    // ---- Rows and values

    public int itemCount(int row) throws IndexOutOfBoundsException {
        requireRow(row);
        return state.rows.sizeOf(row);
    }

    public int thingAt(int row, int place) throws IndexOutOfBoundsException {
        requireRow(row);
        requirePlace(place, state.rows.sizeOf(row));
        return state.rows.thingOn(row, place);
    }

    public int markAt(int row, int place) throws IndexOutOfBoundsException {
        requireRow(row);
        requirePlace(place, state.rows.sizeOf(row));
        return state.rows.markOn(row, place);
    }

    public int placeOf(int row, int thing) throws IndexOutOfBoundsException, NoSuchElementException {
        requireRow(row);
        requireThing(thing);
        int place = state.rows.placeIn(row, thing);
        requireFound(place != NONE);
        return place;
    }

    public int value(int thing) throws IndexOutOfBoundsException {
        requireThing(thing);
        return state.rows.valueOf(thing);
    }

    public int knownCount() {
        ranking.rankAll(state.rows);
        return ranking.count;
    }

    public int ranked(int rank) throws IndexOutOfBoundsException {
        ranking.rankAll(state.rows);
        requirePlace(rank, ranking.count);
        return ranking.thingOn(rank);
    }

    public int rankOf(int thing) throws IndexOutOfBoundsException, NoSuchElementException {
        requireThing(thing);
        ranking.rankAll(state.rows);
        int rank = ranking.rankIn(thing);
        requireFound(rank != NONE);
        return rank;
    }

    // ---- Reading

    public int limit(int depth) throws IllegalArgumentException {
        requireRange(depth, 1, THINGS);
        return state.rows.limitAt(depth);
    }

    public int stopDepth(int k) throws IllegalArgumentException {
        requireRange(k, 1, THINGS);
        return findStop(k);
    }

    public int cost(int k) throws IllegalArgumentException {
        requireRange(k, 1, THINGS);
        int depth = findStop(k);
        int asks = (ROWS - 1) * state.rows.thingsRead(depth);
        return state.rows.itemsRead(depth) * state.readCost + asks * state.askCost;
    }

    public int best(int k, int rank) throws IllegalArgumentException, IndexOutOfBoundsException {
        requireRange(k, 1, THINGS);
        int depth = findStop(k);
        requirePlace(rank, Math.min(k, state.rows.thingsRead(depth)));
        return ranking.readThingOn(rank, depth, state.rows);
    }

    public int refute(int k, int depth) throws IllegalArgumentException, NoSuchElementException {
        requireRange(k, 1, THINGS);
        requireRange(depth, 0, THINGS);
        requireFound(depth < findStop(k));
        int thing = state.rows.leastUnread(depth);
        requireFound(thing != NONE);
        return thing;
    }

    public int lower(int thing, int depth) throws IndexOutOfBoundsException, IllegalArgumentException {
        requireThing(thing);
        requireRange(depth, 1, THINGS);
        return state.rows.lowerOf(thing, depth);
    }

    public int upper(int thing, int depth) throws IndexOutOfBoundsException, IllegalArgumentException {
        requireThing(thing);
        requireRange(depth, 1, THINGS);
        return state.rows.upperOf(thing, depth);
    }

    public int plainDepth(int k) throws IllegalArgumentException {
        requireRange(k, 1, THINGS);
        reader.findPlainStops(state.rows);
        return reader.plainStopOf(k);
    }

    public int plainCost(int k) throws IllegalArgumentException {
        requireRange(k, 1, THINGS);
        reader.findPlainStops(state.rows);
        return state.rows.itemsRead(reader.plainStopOf(k)) * state.readCost;
    }

    public boolean holds(int k, int row, int thing, int mark)
            throws IndexOutOfBoundsException, IllegalArgumentException {
        requireRow(row);
        requireThing(thing);
        requireRange(k, 1, THINGS);
        requireRange(mark, 0, MOST_MARK);
        trial.copyFrom(state.rows);
        trial.setMark(row, thing, mark);
        ranking.rankAll(state.rows);
        trialRanking.rankAll(trial);
        return ranking.hasSameFirst(k, trialRanking);
    }

    // ---- Merging

    public int mergedCount() {
        return state.rows.itemsRead(THINGS);
    }

    public int mergedThing(int place) throws IndexOutOfBoundsException {
        merger.mergeAll(state.rows);
        requirePlace(place, merger.count);
        return merger.thingOn(place);
    }

    public int mergedRow(int place) throws IndexOutOfBoundsException {
        merger.mergeAll(state.rows);
        requirePlace(place, merger.count);
        return merger.rowOn(place);
    }

    public int comparisons(int row, int other) throws IndexOutOfBoundsException, IllegalArgumentException {
        requireRow(row);
        requireRow(other);
        if (row == other) {
            throw new IllegalArgumentException("both rows are the same");
        }
        merger.mergeAll(state.rows);
        return merger.countComparisons(1 << row, 1 << other);
    }

    public int allComparisons() {
        merger.mergeAll(state.rows);
        return merger.countAllComparisons();
    }

    public int quantile(int thousandths) throws IllegalArgumentException, NoSuchElementException {
        requireRange(thousandths, 0, THOUSAND);
        merger.mergeAll(state.rows);
        requireFound(merger.count > 0);
        int place = (merger.count - 1) * thousandths / THOUSAND;
        return state.rows.markOf(merger.rowOn(place), merger.thingOn(place));
    }

    // ---- Votes

    public int candidates() {
        votes.gather(state.rows);
        return votes.count;
    }

    public int prefer(int thing, int other) throws IndexOutOfBoundsException {
        requireThing(thing);
        requireThing(other);
        return state.rows.countPreferring(thing, other);
    }

    public int winner() throws NoSuchElementException {
        votes.gather(state.rows);
        int thing = votes.findWinner();
        requireFound(thing != NONE);
        return thing;
    }

    public int ring() {
        votes.gather(state.rows);
        return votes.shortestRing();
    }

    public int swaps() {
        votes.gather(state.rows);
        return votes.arrange();
    }

    public int orderAt(int place) throws IndexOutOfBoundsException {
        votes.gather(state.rows);
        requirePlace(place, votes.count);
        votes.arrange();
        return votes.thingOn(place);
    }

    // ---- Numbers that come by

    public int windowSize() {
        return state.numbers.size;
    }

    public int windowAt(int rank) throws IndexOutOfBoundsException {
        requirePlace(rank, state.numbers.size);
        return state.numbers.bySize(rank);
    }

    public int unlike() {
        return state.numbers.countUnlike();
    }

    public int counted(int number) throws IllegalArgumentException {
        requireRange(number, 0, MOST_NUMBER);
        return state.numbers.countOf(number);
    }

    public int came(int number) throws IllegalArgumentException {
        requireRange(number, 0, MOST_NUMBER);
        return state.numbers.timesOf(number);
    }

    public int bound() {
        return state.numbers.allLess;
    }

    // ---- Pairs and joins

    public int pairSum(int row, int other, int rank) throws IndexOutOfBoundsException {
        findPair(row, other, rank);
        return pairs.sum;
    }

    public int pairPlace(int row, int other, int rank, boolean isSecond) throws IndexOutOfBoundsException {
        findPair(row, other, rank);
        return isSecond ? pairs.secondPlace : pairs.firstPlace;
    }

    public int common(int row, int other) throws IndexOutOfBoundsException {
        requireRow(row);
        requireRow(other);
        return state.rows.countCommon(row, other);
    }

    public int commonAt(int row, int other, int place) throws IndexOutOfBoundsException {
        requireRow(row);
        requireRow(other);
        requirePlace(place, state.rows.countCommon(row, other));
        return state.rows.commonOn(row, other, place);
    }

    // ---- Measures and the second way

    public double meanMark() {
        int count = state.rows.itemsRead(THINGS);
        return count == 0 ? 0.0 : (double) state.rows.sumOfMarks() / (double) count;
    }

    public float fill() {
        return (float) state.rows.itemsRead(THINGS) / 100.0f;
    }

    public int errors() {
        ranking.rankAll(state.rows);
        reader.findStops(state.rows, ranking);
        reader.findPlainStops(state.rows);
        merger.mergeAll(state.rows);
        return reader.countFaults(state.rows, ranking) + merger.countFaults(state.rows);
    }

    // ---- What the calls share

    /** Also leaves the ranking as it is now, which the callers go on with. */
    private int findStop(int k) {
        ranking.rankAll(state.rows);
        reader.findStops(state.rows, ranking);
        return reader.stopOf(k);
    }

    private void findPair(int row, int other, int rank) {
        requireRow(row);
        requireRow(other);
        requirePlace(rank, state.rows.sizeOf(row) * state.rows.sizeOf(other));
        pairs.find(state.rows, row, other, rank);
    }

    private static boolean isRow(int row) {
        return row >= 0 && row < ROWS;
    }

    /** Places count as things do: a row has at most one item for each thing. */
    private static boolean isThing(int thing) {
        return thing >= 0 && thing < THINGS;
    }

    private static void requireRow(int row) {
        if (!isRow(row)) {
            throw new IndexOutOfBoundsException("there is no such row");
        }
    }

    private static void requireThing(int thing) {
        if (!isThing(thing)) {
            throw new IndexOutOfBoundsException("there is no such thing");
        }
    }

    private static void requirePlace(int place, int count) {
        if (place < 0 || place >= count) {
            throw new IndexOutOfBoundsException("there is no such place or rank");
        }
    }

    private static void requireRange(int number, int least, int greatest) {
        if (number < least || number > greatest) {
            throw new IllegalArgumentException("an argument is out of range");
        }
    }

    private static void requireFound(boolean isFound) {
        if (!isFound) {
            throw new NoSuchElementException("there is none");
        }
    }

    /** All that the changes alter and that undo brings back. */
    private static final class State {
        private final Rows rows = new Rows();
        private final Numbers numbers = new Numbers();
        private int readCost = 1;
        private int askCost = 1;

        private void copyFrom(State other) {
            rows.copyFrom(other.rows);
            numbers.copyFrom(other.numbers);
            readCost = other.readCost;
            askCost = other.askCost;
        }
    }

    /** The states ahead of the latest changes. Their objects are used again and again, to keep the room small. */
    private static final class History {
        private final State[] saved = new State[MOST_UNDOS];
        private int count = 0;

        private History() {
            for (int i = 0; i < MOST_UNDOS; i++) {
                saved[i] = new State();
            }
        }

        private void save(State state) {
            State latest = saved[MOST_UNDOS - 1];
            for (int i = MOST_UNDOS - 1; i > 0; i--) {
                saved[i] = saved[i - 1];
            }
            saved[0] = latest;
            if (latest != null) {
                latest.copyFrom(state);
            }
            count = Math.min(count + 1, MOST_UNDOS);
        }

        private int restore(State state) {
            State latest = saved[0];
            if (count == 0 || latest == null) {
                return NONE;
            }
            state.copyFrom(latest);
            for (int i = 0; i + 1 < MOST_UNDOS; i++) {
                saved[i] = saved[i + 1];
            }
            saved[MOST_UNDOS - 1] = latest;
            count--;
            return count;
        }
    }

    /** The rows, kept sorted, with their weights and the rule. */
    private static final class Rows {
        /** By row and thing; NONE without an item, so are the places. */
        private final int[][] marks = new int[ROWS][THINGS];
        private final int[][] places = new int[ROWS][THINGS];
        /** By row and place; NONE behind the last item. */
        private final int[][] things = new int[ROWS][THINGS];
        private final int[] sizes = new int[ROWS];
        private final int[] weights = new int[ROWS];
        /** The least place of each thing in any row; THINGS, behind all places, if it is not known. */
        private final int[] firstPlaces = new int[THINGS];
        private int rule = SUM;
        /** What the rule is to be applied to: a number for each row. */
        private final int[] parts = new int[ROWS];

        private Rows() {
            for (int row = 0; row < ROWS; row++) {
                for (int thing = 0; thing < THINGS; thing++) {
                    marks[row][thing] = NONE;
                    things[row][thing] = NONE;
                    places[row][thing] = NONE;
                    firstPlaces[thing] = THINGS;
                }
                weights[row] = 1;
            }
        }

        private void copyFrom(Rows other) {
            for (int row = 0; row < ROWS; row++) {
                System.arraycopy(other.marks[row], 0, marks[row], 0, THINGS);
                System.arraycopy(other.things[row], 0, things[row], 0, THINGS);
                System.arraycopy(other.places[row], 0, places[row], 0, THINGS);
                sizes[row] = other.sizes[row];
                weights[row] = other.weights[row];
            }
            System.arraycopy(other.firstPlaces, 0, firstPlaces, 0, THINGS);
            rule = other.rule;
        }

        /** Gives a thing a mark in a row; NONE takes its item out. */
        private void setMark(int row, int thing, int mark) {
            if (isRow(row) && isThing(thing)) {
                marks[row][thing] = mark;
                sizes[row] = sort(marks[row], things[row], places[row]);
                findFirstPlaces();
            }
        }

        private static int sort(int[] marks, int[] things, int[] places) {
            Arrays.fill(things, NONE);
            Arrays.fill(places, NONE);
            int size = 0;
            for (int thing = 0; thing < THINGS; thing++) {
                int place = marks[thing] == NONE ? NONE : countAhead(marks, thing);
                if (isThing(place)) {
                    things[place] = thing;
                    places[thing] = place;
                    size++;
                }
            }
            return size;
        }

        private static int countAhead(int[] marks, int thing) {
            int mark = isThing(thing) ? marks[thing] : NONE;
            int count = 0;
            for (int other = 0; other < THINGS; other++) {
                if (marks[other] > mark || (marks[other] == mark && other < thing)) {
                    count++;
                }
            }
            return count;
        }

        private void findFirstPlaces() {
            for (int thing = 0; thing < THINGS; thing++) {
                int first = THINGS;
                for (int row = 0; row < ROWS; row++) {
                    int place = places[row][thing];
                    first = place == NONE ? first : Math.min(first, place);
                }
                firstPlaces[thing] = first;
            }
        }

        private int changeWeight(int row, int weight) {
            int before = NONE;
            if (isRow(row)) {
                before = weights[row];
                weights[row] = weight;
            }
            return before;
        }

        private int sizeOf(int row) {
            return isRow(row) ? sizes[row] : 0;
        }

        private int markOf(int row, int thing) {
            return isRow(row) && isThing(thing) ? marks[row][thing] : NONE;
        }

        private int placeIn(int row, int thing) {
            return isRow(row) && isThing(thing) ? places[row][thing] : NONE;
        }

        private int thingOn(int row, int place) {
            return isRow(row) && isThing(place) ? things[row][place] : NONE;
        }

        private int markOn(int row, int place) {
            return markOf(row, thingOn(row, place));
        }

        private int weightedMark(int row, int thing) {
            boolean hasItem = isRow(row) && isThing(thing) && marks[row][thing] != NONE;
            return hasItem ? marks[row][thing] * weights[row] : 0;
        }

        private int lastMark(int row, int depth) {
            return weightedMark(row, thingOn(row, depth - 1));
        }

        private int valueOf(int thing) {
            for (int row = 0; row < ROWS; row++) {
                parts[row] = weightedMark(row, thing);
            }
            return applyRule();
        }

        private int limitAt(int depth) {
            for (int row = 0; row < ROWS; row++) {
                parts[row] = lastMark(row, depth);
            }
            return applyRule();
        }

        private int lowerOf(int thing, int depth) {
            for (int row = 0; row < ROWS; row++) {
                parts[row] = isReadIn(row, thing, depth) ? weightedMark(row, thing) : 0;
            }
            return applyRule();
        }

        private int upperOf(int thing, int depth) {
            for (int row = 0; row < ROWS; row++) {
                parts[row] = isReadIn(row, thing, depth) ? weightedMark(row, thing) : lastMark(row, depth);
            }
            return applyRule();
        }

        private int applyRule() {
            if (rule == LEAST) {
                return leastPart();
            }
            int value = 0;
            for (int part : parts) {
                value = rule == SUM ? value + part : Math.max(value, part);
            }
            return value;
        }

        private int leastPart() {
            int least = NONE;
            for (int row = 0; row < ROWS; row++) {
                if (weights[row] > 0 && (least == NONE || parts[row] < least)) {
                    least = parts[row];
                }
            }
            return least == NONE ? 0 : least;
        }

        private boolean isReadIn(int row, int thing, int depth) {
            int place = placeIn(row, thing);
            return place != NONE && place < depth;
        }

        private boolean isRead(int thing, int depth) {
            return isThing(thing) && firstPlaces[thing] < depth;
        }

        /** At the depth of all things every item has been read, so the known things are those read there. */
        private boolean isKnown(int thing) {
            return isRead(thing, THINGS);
        }

        private int itemsRead(int depth) {
            int count = 0;
            for (int size : sizes) {
                count += Math.min(size, depth);
            }
            return count;
        }

        private int thingsRead(int depth) {
            int count = 0;
            for (int thing = 0; thing < THINGS; thing++) {
                if (isRead(thing, depth)) {
                    count++;
                }
            }
            return count;
        }

        private int leastUnread(int depth) {
            for (int thing = 0; thing < THINGS; thing++) {
                if (!isRead(thing, depth)) {
                    return thing;
                }
            }
            return NONE;
        }

        /** The first depth at which all items have been read. */
        private int deepest() {
            int depth = 0;
            for (int size : sizes) {
                depth = Math.max(depth, size);
            }
            return depth;
        }

        private int countPreferring(int thing, int other) {
            int count = 0;
            for (int row = 0; row < ROWS; row++) {
                int place = placeIn(row, thing);
                int otherPlace = placeIn(row, other);
                if (place != NONE && (otherPlace == NONE || place < otherPlace)) {
                    count++;
                }
            }
            return count;
        }

        private int countCommon(int row, int other) {
            int count = 0;
            for (int thing = 0; thing < THINGS; thing++) {
                if (isInBoth(row, other, thing)) {
                    count++;
                }
            }
            return count;
        }

        private int commonOn(int row, int other, int place) {
            int passed = 0;
            for (int thing = 0; thing < THINGS; thing++) {
                if (isInBoth(row, other, thing)) {
                    if (passed == place) {
                        return thing;
                    }
                    passed++;
                }
            }
            return NONE;
        }

        private boolean isInBoth(int row, int other, int thing) {
            return markOf(row, thing) != NONE && markOf(other, thing) != NONE;
        }

        private int sumOfMarks() {
            int sum = 0;
            for (int row = 0; row < ROWS; row++) {
                for (int mark : marks[row]) {
                    sum += Math.max(mark, 0);
                }
            }
            return sum;
        }
    }

    /** The known things and their values, the best ones first. */
    private static final class Ranking {
        /** By thing; NONE if it is not known, so are the ranks. */
        private final int[] values = new int[THINGS];
        private final int[] ranks = new int[THINGS];
        /** By rank; NONE behind the last one. */
        private final int[] things = new int[THINGS];
        private int count = 0;

        private void rankAll(Rows rows) {
            count = 0;
            for (int thing = 0; thing < THINGS; thing++) {
                boolean isKnown = rows.isKnown(thing);
                values[thing] = isKnown ? rows.valueOf(thing) : NONE;
                count += isKnown ? 1 : 0;
            }
            Arrays.fill(ranks, NONE);
            Arrays.fill(things, NONE);
            for (int thing = 0; thing < THINGS; thing++) {
                int rank = values[thing] == NONE ? NONE : countAhead(thing);
                if (isThing(rank)) {
                    ranks[thing] = rank;
                    things[rank] = thing;
                }
            }
        }

        private int countAhead(int thing) {
            int value = valueIn(thing);
            int ahead = 0;
            for (int other = 0; other < THINGS; other++) {
                if (values[other] > value || (values[other] == value && other < thing)) {
                    ahead++;
                }
            }
            return ahead;
        }

        private int valueIn(int thing) {
            return isThing(thing) ? values[thing] : NONE;
        }

        private int rankIn(int thing) {
            return isThing(thing) ? ranks[thing] : NONE;
        }

        private int thingOn(int rank) {
            return isThing(rank) ? things[rank] : NONE;
        }

        /** The thing of a rank among those that have been read at a depth; NONE if they are not so many. */
        private int readThingOn(int rank, int depth, Rows rows) {
            int passed = 0;
            for (int thing : things) {
                if (rows.isRead(thing, depth)) {
                    if (passed == rank) {
                        return thing;
                    }
                    passed++;
                }
            }
            return NONE;
        }

        private boolean hasSameFirst(int k, Ranking other) {
            for (int rank = 0; rank < k; rank++) {
                if (thingOn(rank) != other.thingOn(rank)) {
                    return false;
                }
            }
            return true;
        }
    }

    /** Finds for each k the depth at which a way of reading stops. */
    private static final class Reader {
        /** By k, which begins with 1, so are the plain ones. */
        private final int[] stops = new int[THINGS + 1];
        private final int[] plainStops = new int[THINGS + 1];
        /** The bounds of the things that have been read, the greatest lower ones first. */
        private final int[] lowers = new int[THINGS];
        private final int[] uppers = new int[THINGS];
        private int readCount = 0;

        private void findStops(Rows rows, Ranking ranking) {
            Arrays.fill(stops, NONE);
            int end = rows.deepest();
            for (int depth = 1; depth < end; depth++) {
                stopUpTo(countSure(depth, rows.limitAt(depth), rows, ranking), depth);
            }
            stopUpTo(THINGS, end);
        }

        /** The k-th best value reaches the limit for just those k up to the number of values that do. */
        private static int countSure(int depth, int limit, Rows rows, Ranking ranking) {
            int count = 0;
            for (int thing = 0; thing < THINGS; thing++) {
                if (ranking.valueIn(thing) >= limit && rows.isRead(thing, depth)) {
                    count++;
                }
            }
            return count;
        }

        private void stopUpTo(int greatest, int depth) {
            for (int k = 1; k <= greatest && k <= THINGS; k++) {
                if (stops[k] == NONE) {
                    stops[k] = depth;
                }
            }
        }

        private void findPlainStops(Rows rows) {
            Arrays.fill(plainStops, NONE);
            int end = rows.deepest();
            for (int depth = 1; depth < end; depth++) {
                gatherBounds(depth, rows);
                stopSettled(depth, rows.limitAt(depth));
            }
            for (int k = 1; k <= THINGS; k++) {
                if (plainStops[k] == NONE) {
                    plainStops[k] = end;
                }
            }
        }

        private void gatherBounds(int depth, Rows rows) {
            readCount = 0;
            for (int thing = 0; thing < THINGS; thing++) {
                if (rows.isRead(thing, depth)) {
                    insertBounds(rows.lowerOf(thing, depth), rows.upperOf(thing, depth));
                }
            }
        }

        /**
         * Of things with the same lower bound the one with the greater upper bound goes first: if any k things
         * are settled, then the first k of this order are, too.
         */
        private void insertBounds(int lower, int upper) {
            if (!isThing(readCount)) {
                return;
            }
            int at = readCount;
            while (at > 0 && isLess(lowers[at - 1], uppers[at - 1], lower, upper)) {
                lowers[at] = lowers[at - 1];
                uppers[at] = uppers[at - 1];
                at--;
            }
            lowers[at] = lower;
            uppers[at] = upper;
            readCount++;
        }

        private static boolean isLess(int lower, int upper, int otherLower, int otherUpper) {
            return lower < otherLower || (lower == otherLower && upper < otherUpper);
        }

        private void stopSettled(int depth, int limit) {
            int toReach = limit;
            for (int k = Math.min(readCount, THINGS); k >= 1; k--) {
                if (plainStops[k] == NONE && lowers[k - 1] >= toReach) {
                    plainStops[k] = depth;
                }
                toReach = Math.max(toReach, uppers[k - 1]);
            }
        }

        private int stopOf(int k) {
            return isThing(k - 1) ? stops[k] : NONE;
        }

        private int plainStopOf(int k) {
            return isThing(k - 1) ? plainStops[k] : NONE;
        }

        private int countFaults(Rows rows, Ranking ranking) {
            int faults = 0;
            for (int k = 1; k <= THINGS; k++) {
                faults += isAnswerBest(k, rows, ranking) ? 0 : 1;
                faults += plainStops[k] < stops[k] ? 1 : 0;
            }
            return faults;
        }

        private boolean isAnswerBest(int k, Rows rows, Ranking ranking) {
            int depth = stopOf(k);
            int answered = 0;
            for (int rank = 0; rank < ranking.count && answered < k; rank++) {
                int thing = ranking.thingOn(rank);
                if (rows.isRead(thing, depth)) {
                    if (ranking.valueIn(thing) != ranking.valueIn(ranking.thingOn(answered))) {
                        return false;
                    }
                    answered++;
                }
            }
            return answered == Math.min(k, ranking.count);
        }
    }

    /** The merged row of all rows. */
    private static final class Merger {
        private final int[] mergedRows = new int[ITEMS];
        private final int[] mergedThings = new int[ITEMS];
        private int count = 0;
        /** How many items of each row have been taken. */
        private final int[] taken = new int[ROWS];

        private void mergeAll(Rows rows) {
            Arrays.fill(taken, 0);
            count = 0;
            for (int place = 0; place < ITEMS; place++) {
                int row = rowAhead(rows);
                if (!isRow(row)) {
                    return;
                }
                mergedRows[place] = row;
                mergedThings[place] = rows.thingOn(row, taken[row]);
                taken[row]++;
                count++;
            }
        }

        /** The row whose next item is ahead of those of the other rows; NONE if all are taken. */
        private int rowAhead(Rows rows) {
            int ahead = NONE;
            int greatest = NONE;
            for (int row = 0; row < ROWS; row++) {
                int mark = rows.markOn(row, taken[row]);
                if (mark > greatest) {
                    ahead = row;
                    greatest = mark;
                }
            }
            return ahead;
        }

        private int rowOn(int place) {
            return place >= 0 && place < ITEMS ? mergedRows[place] : NONE;
        }

        private int thingOn(int place) {
            return place >= 0 && place < ITEMS ? mergedThings[place] : NONE;
        }

        private int countAllComparisons() {
            return countComparisons(0b00001, 0b00010) + countComparisons(0b00100, 0b01000)
                    + countComparisons(0b00011, 0b01100) + countComparisons(0b01111, 0b10000);
        }

        /** Merges two sets of rows, each told by a bit for a row; what is taken there stands as in the merged row. */
        private int countComparisons(int rows, int otherRows) {
            int left = countItems(rows);
            int otherLeft = countItems(otherRows);
            int compared = 0;
            for (int place = 0; place < count && left > 0 && otherLeft > 0; place++) {
                if (isAmong(rows, place)) {
                    left--;
                    compared++;
                } else if (isAmong(otherRows, place)) {
                    otherLeft--;
                    compared++;
                }
            }
            return compared;
        }

        private int countItems(int rows) {
            int items = 0;
            for (int place = 0; place < count; place++) {
                if (isAmong(rows, place)) {
                    items++;
                }
            }
            return items;
        }

        private boolean isAmong(int rows, int place) {
            int row = rowOn(place);
            return isRow(row) && (rows >> row & 1) == 1;
        }

        private int countFaults(Rows rows) {
            int faults = 0;
            for (int place = 0; place + 1 < count; place++) {
                faults += isAhead(place, place + 1, rows) ? 0 : 1;
            }
            return faults;
        }

        private boolean isAhead(int place, int other, Rows rows) {
            int mark = rows.markOf(rowOn(place), thingOn(place));
            int otherMark = rows.markOf(rowOn(other), thingOn(other));
            if (mark != otherMark) {
                return mark > otherMark;
            }
            if (rowOn(place) != rowOn(other)) {
                return rowOn(place) < rowOn(other);
            }
            return thingOn(place) < thingOn(other);
        }
    }

    /** The candidates and what the rows say of them. Within it a candidate is told by its number among them. */
    private static final class Votes {
        private final int[] chosen = new int[MOST_CANDIDATES];
        private int count = 0;
        /** How many rows prefer the first candidate to the second one. */
        private final int[][] preferring = new int[MOST_CANDIDATES][MOST_CANDIDATES];
        /** The swaps of the least order of each set of candidates, told by a bit for each. */
        private final int[] fewest = new int[1 << MOST_CANDIDATES];
        private final int[] order = new int[MOST_CANDIDATES];

        private void gather(Rows rows) {
            count = 0;
            for (int thing = 0; thing < THINGS; thing++) {
                if (isCandidate(count) && rows.isKnown(thing)) {
                    chosen[count] = thing;
                    count++;
                }
            }
            for (int one = 0; one < count; one++) {
                for (int other = 0; other < count; other++) {
                    if (isCandidate(one) && isCandidate(other)) {
                        preferring[one][other] = rows.countPreferring(chosen[one], chosen[other]);
                    }
                }
            }
        }

        private static boolean isCandidate(int candidate) {
            return candidate >= 0 && candidate < MOST_CANDIDATES;
        }

        private boolean beats(int one, int other) {
            return isCandidate(one) && isCandidate(other) && preferring[one][other] > preferring[other][one];
        }

        private int findWinner() {
            for (int one = 0; one < count && one < MOST_CANDIDATES; one++) {
                if (countBeaten(one) == count - 1) {
                    return chosen[one];
                }
            }
            return NONE;
        }

        private int countBeaten(int one) {
            int beaten = 0;
            for (int other = 0; other < count; other++) {
                beaten += beats(one, other) ? 1 : 0;
            }
            return beaten;
        }

        private int shortestRing() {
            int shortest = NONE;
            for (int start = 0; start < count; start++) {
                int length = ringFrom(start);
                if (length != NONE && (shortest == NONE || length < shortest)) {
                    shortest = length;
                }
            }
            return shortest;
        }

        /**
         * The steps from a candidate back to itself. No two candidates beat each other, so they are at least
         * three; and a way that comes by a candidate twice has a shorter ring in it, found from another start.
         */
        private int ringFrom(int start) {
            int reached = 1 << start;
            for (int length = 1; length <= count; length++) {
                reached = beatenBy(reached);
                if ((reached >> start & 1) == 1) {
                    return length;
                }
            }
            return NONE;
        }

        private int beatenBy(int set) {
            int beaten = 0;
            for (int one = 0; one < count; one++) {
                for (int other = 0; other < count; other++) {
                    if ((set >> one & 1) == 1 && beats(one, other)) {
                        beaten |= 1 << other;
                    }
                }
            }
            return beaten;
        }

        /** Finds the least order, from the small sets to the large ones, and answers its swaps. */
        private int arrange() {
            int all = (1 << count) - 1;
            fewest[0] = 0;
            for (int set = 1; set <= all && set < fewest.length; set++) {
                fewest[set] = swapsBehind(firstOf(set), set);
            }
            int left = all;
            for (int place = 0; place < count && place < MOST_CANDIDATES; place++) {
                int first = firstOf(left);
                if (isCandidate(first)) {
                    order[place] = chosen[first];
                    left &= ~(1 << first);
                }
            }
            return all >= 0 && all < fewest.length ? fewest[all] : 0;
        }

        /** The candidate with which the least order of a set begins. */
        private int firstOf(int set) {
            int first = NONE;
            for (int one = 0; one < count; one++) {
                if ((set >> one & 1) == 1 && (first == NONE || swapsBehind(one, set) < swapsBehind(first, set))) {
                    first = one;
                }
            }
            return first;
        }

        /** The swaps of the least order of a set that begins with a candidate. */
        private int swapsBehind(int first, int set) {
            if (!isCandidate(first)) {
                return 0;
            }
            int rest = set & ~(1 << first);
            int swaps = rest >= 0 && rest < fewest.length ? fewest[rest] : 0;
            for (int other = 0; other < count && other < MOST_CANDIDATES; other++) {
                swaps += (rest >> other & 1) == 1 ? preferring[other][first] : 0;
            }
            return swaps;
        }

        private int thingOn(int place) {
            return isCandidate(place) ? order[place] : NONE;
        }
    }

    /** The numbers that came by since they began anew. */
    private static final class Numbers {
        private final int[] window = new int[MOST_WIDTH];
        private int width = 5;
        private int size = 0;
        private final int[] times = new int[MOST_NUMBER + 1];
        private int total = 0;
        private int counters = 2;
        private final int[] counterNumbers = new int[MOST_COUNTERS];
        private final int[] counts = new int[MOST_COUNTERS];
        private int allLess = 0;

        private Numbers() {
            for (int i = 0; i < MOST_COUNTERS; i++) {
                counterNumbers[i] = NONE;
            }
        }

        private void copyFrom(Numbers other) {
            System.arraycopy(other.window, 0, window, 0, MOST_WIDTH);
            width = other.width;
            size = other.size;
            System.arraycopy(other.times, 0, times, 0, MOST_NUMBER + 1);
            total = other.total;
            counters = other.counters;
            System.arraycopy(other.counterNumbers, 0, counterNumbers, 0, MOST_COUNTERS);
            System.arraycopy(other.counts, 0, counts, 0, MOST_COUNTERS);
            allLess = other.allLess;
        }

        private void beginAnew(int newWidth, int newCounters) {
            width = newWidth;
            size = 0;
            Arrays.fill(times, 0);
            total = 0;
            counters = newCounters;
            Arrays.fill(counterNumbers, NONE);
            Arrays.fill(counts, 0);
            allLess = 0;
        }

        /** Answers the number that leaves the window. */
        private int take(int number) {
            int leaving = size >= width ? dropOldest() : NONE;
            if (size >= 0 && size < MOST_WIDTH) {
                window[size] = number;
                size++;
            }
            if (isNumber(number)) {
                times[number]++;
            }
            total++;
            tally(number);
            return leaving;
        }

        private int dropOldest() {
            int oldest = window[0];
            for (int i = 0; i + 1 < MOST_WIDTH; i++) {
                window[i] = window[i + 1];
            }
            size--;
            return oldest;
        }

        private void tally(int number) {
            int counter = counterOf(number);
            if (counter == NONE) {
                counter = counterOf(NONE);
            }
            if (counter >= 0 && counter < MOST_COUNTERS) {
                counterNumbers[counter] = number;
                counts[counter]++;
            } else {
                countAllLess();
            }
        }

        /** The first counter that has a number; asked for NONE, the first one without a number. */
        private int counterOf(int number) {
            for (int i = 0; i < counters && i < MOST_COUNTERS; i++) {
                if (counterNumbers[i] == number) {
                    return i;
                }
            }
            return NONE;
        }

        private void countAllLess() {
            for (int i = 0; i < counters && i < MOST_COUNTERS; i++) {
                counts[i]--;
                if (counts[i] == 0) {
                    counterNumbers[i] = NONE;
                }
            }
            allLess++;
        }

        private static boolean isNumber(int number) {
            return number >= 0 && number <= MOST_NUMBER;
        }

        private int countOf(int number) {
            int counter = counterOf(number);
            return counter >= 0 && counter < MOST_COUNTERS ? counts[counter] : 0;
        }

        private int timesOf(int number) {
            return isNumber(number) ? times[number] : 0;
        }

        private int bySize(int rank) {
            for (int i = 0; i < size && i < MOST_WIDTH; i++) {
                if (rankInWindow(i) == rank) {
                    return window[i];
                }
            }
            return NONE;
        }

        /** Of the same numbers the older one goes first. */
        private int rankInWindow(int at) {
            int rank = 0;
            for (int i = 0; i < size && i < MOST_WIDTH && at >= 0 && at < MOST_WIDTH; i++) {
                if (window[i] > window[at] || (window[i] == window[at] && i < at)) {
                    rank++;
                }
            }
            return rank;
        }

        private int countUnlike() {
            int unlike = 0;
            for (int i = 0; i < size && i < MOST_WIDTH; i++) {
                unlike += isFirstOfItsKind(i) ? 1 : 0;
            }
            return unlike;
        }

        private boolean isFirstOfItsKind(int at) {
            for (int i = 0; i < at && at < MOST_WIDTH; i++) {
                if (window[i] == window[at]) {
                    return false;
                }
            }
            return true;
        }
    }

    /** Finds a pair of two rows by its rank, from the number of pairs of each sum. */
    private static final class Pairs {
        private final int[] counts = new int[2 * MOST_MARK + 1];
        private int sum = 0;
        private int firstPlace = 0;
        private int secondPlace = 0;

        private void find(Rows rows, int row, int other, int rank) {
            countSums(rows, row, other);
            int passed = 0;
            for (int s = 2 * MOST_MARK; s >= 0; s--) {
                if (rank < passed + counts[s]) {
                    sum = s;
                    findOfSum(rows, row, other, rank - passed);
                    return;
                }
                passed += counts[s];
            }
        }

        private void countSums(Rows rows, int row, int other) {
            Arrays.fill(counts, 0);
            for (int place = 0; place < rows.sizeOf(row); place++) {
                for (int otherPlace = 0; otherPlace < rows.sizeOf(other); otherPlace++) {
                    int s = rows.markOn(row, place) + rows.markOn(other, otherPlace);
                    if (s >= 0 && s < counts.length) {
                        counts[s]++;
                    }
                }
            }
        }

        private void findOfSum(Rows rows, int row, int other, int rank) {
            int passed = 0;
            for (int place = 0; place < rows.sizeOf(row); place++) {
                for (int otherPlace = 0; otherPlace < rows.sizeOf(other); otherPlace++) {
                    if (rows.markOn(row, place) + rows.markOn(other, otherPlace) == sum) {
                        if (passed == rank) {
                            firstPlace = place;
                            secondPlace = otherPlace;
                            return;
                        }
                        passed++;
                    }
                }
            }
        }
    }
}
