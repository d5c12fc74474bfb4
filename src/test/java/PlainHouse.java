import java.util.ArrayDeque;
import java.util.ArrayList;
import java.util.Collections;
import java.util.Comparator;
import java.util.Deque;
import java.util.HashSet;
import java.util.List;
import java.util.NoSuchElementException;
import java.util.Set;
import java.util.TreeSet;

/** The document once more, word by word and without any thrift, to hold the house against. */
public final class PlainHouse {
    private static final int NONE = -1;

    private record Item(int row, int thing, int mark) {
    }

    private record Pair(int sum, int first, int second) {
    }

    /** The whole state; a change works on a copy of it. */
    private static final class State {
        List<Item> items = new ArrayList<>();
        int[] weights = {1, 1, 1, 1, 1};
        int rule = 0;
        int read = 1;
        int ask = 1;
        int width = 5;
        int counters = 2;
        List<Integer> numbers = new ArrayList<>();

        State copy() {
            State copy = new State();
            copy.items.addAll(items);
            copy.weights = weights.clone();
            copy.rule = rule;
            copy.read = read;
            copy.ask = ask;
            copy.width = width;
            copy.counters = counters;
            copy.numbers.addAll(numbers);
            return copy;
        }
    }

    private State now = new State();
    private final Deque<State> past = new ArrayDeque<>();

    public PlainHouse() {
        int[][] first = {{0, 0, 90}, {0, 1, 80}, {0, 2, 70}, {0, 3, 10}, {1, 1, 85}, {1, 2, 75}, {1, 0, 20},
            {2, 2, 95}, {2, 0, 60}, {2, 4, 50}};
        for (int[] item : first) {
            now.items.add(new Item(item[0], item[1], item[2]));
        }
    }

    // ---- Changes

    private void change() {
        past.push(now.copy());
        if (past.size() > 8) {
            past.removeLast();
        }
    }

    public int put(int row, int thing, int mark) {
        index(row, 5);
        index(thing, 20);
        range(mark, 0, 99);
        change();
        int before = markOf(row, thing);
        now.items.removeIf(i -> i.row == row && i.thing == thing);
        now.items.add(new Item(row, thing, mark));
        return before;
    }

    public int drop(int row, int thing) {
        index(row, 5);
        index(thing, 20);
        int before = markOf(row, thing);
        found(before != NONE);
        change();
        now.items.removeIf(i -> i.row == row && i.thing == thing);
        return before;
    }

    public int setWeight(int row, int weight) {
        index(row, 5);
        range(weight, 0, 5);
        change();
        int before = now.weights[row];
        now.weights[row] = weight;
        return before;
    }

    public int setRule(int rule) {
        range(rule, 0, 2);
        change();
        int before = now.rule;
        now.rule = rule;
        return before;
    }

    public int setCosts(int read, int ask) {
        range(read, 0, 99);
        range(ask, 0, 99);
        change();
        int before = now.read * 100 + now.ask;
        now.read = read;
        now.ask = ask;
        return before;
    }

    public int setWindow(int width, int counters) {
        range(width, 1, 10);
        range(counters, 1, 4);
        change();
        int before = now.numbers.size();
        now.width = width;
        now.counters = counters;
        now.numbers.clear();
        return before;
    }

    public int push(int number) {
        range(number, 0, 99);
        change();
        int came = now.numbers.size();
        int leaves = came >= now.width ? now.numbers.get(came - now.width) : NONE;
        now.numbers.add(number);
        return leaves;
    }

    public int undo() {
        if (past.isEmpty()) {
            return NONE;
        }
        now = past.pop();
        return past.size();
    }

    // ---- Rows and values

    private int markOf(int row, int thing) {
        for (Item item : now.items) {
            if (item.row == row && item.thing == thing) {
                return item.mark;
            }
        }
        return NONE;
    }

    private List<Item> row(int row) {
        List<Item> sorted = new ArrayList<>(now.items);
        sorted.removeIf(i -> i.row != row);
        sorted.sort(Comparator.comparing((Item i) -> -i.mark).thenComparing(i -> i.thing));
        return sorted;
    }

    private int weighted(int row, int thing) {
        return markOf(row, thing) == NONE ? 0 : now.weights[row] * markOf(row, thing);
    }

    private int byRule(int[] parts) {
        if (now.rule == 0) {
            int sum = 0;
            for (int part : parts) {
                sum += part;
            }
            return sum;
        }
        List<Integer> some = new ArrayList<>();
        for (int row = 0; row < 5; row++) {
            if (now.rule == 2 || now.weights[row] > 0) {
                some.add(parts[row]);
            }
        }
        if (some.isEmpty()) {
            return 0;
        }
        return now.rule == 1 ? Collections.min(some) : Collections.max(some);
    }

    private int worth(int thing) {
        int[] parts = new int[5];
        for (int row = 0; row < 5; row++) {
            parts[row] = weighted(row, thing);
        }
        return byRule(parts);
    }

    private Set<Integer> known() {
        Set<Integer> known = new TreeSet<>();
        for (Item item : now.items) {
            known.add(item.thing);
        }
        return known;
    }

    private List<Integer> byWorth(Set<Integer> things) {
        List<Integer> sorted = new ArrayList<>(things);
        sorted.sort(Comparator.comparing((Integer t) -> -worth(t)).thenComparing(t -> t));
        return sorted;
    }

    public int itemCount(int row) {
        index(row, 5);
        return row(row).size();
    }

    public int thingAt(int row, int place) {
        index(row, 5);
        index(place, row(row).size());
        return row(row).get(place).thing;
    }

    public int markAt(int row, int place) {
        index(row, 5);
        index(place, row(row).size());
        return row(row).get(place).mark;
    }

    private int place(int row, int thing) {
        List<Item> items = row(row);
        for (int place = 0; place < items.size(); place++) {
            if (items.get(place).thing == thing) {
                return place;
            }
        }
        return NONE;
    }

    public int placeOf(int row, int thing) {
        index(row, 5);
        index(thing, 20);
        found(place(row, thing) != NONE);
        return place(row, thing);
    }

    public int value(int thing) {
        index(thing, 20);
        return worth(thing);
    }

    public int knownCount() {
        return known().size();
    }

    public int ranked(int rank) {
        index(rank, known().size());
        return byWorth(known()).get(rank);
    }

    public int rankOf(int thing) {
        index(thing, 20);
        found(known().contains(thing));
        return byWorth(known()).indexOf(thing);
    }

    // ---- Reading

    private int last(int row, int depth) {
        List<Item> items = row(row);
        return items.size() <= depth - 1 ? 0 : items.get(depth - 1).mark * now.weights[row];
    }

    private List<Item> readItems(int depth) {
        List<Item> read = new ArrayList<>();
        for (int row = 0; row < 5; row++) {
            List<Item> items = row(row);
            read.addAll(items.subList(0, Math.min(depth, items.size())));
        }
        return read;
    }

    private Set<Integer> readThings(int depth) {
        Set<Integer> things = new TreeSet<>();
        for (Item item : readItems(depth)) {
            things.add(item.thing);
        }
        return things;
    }

    private int limitAt(int depth) {
        int[] parts = new int[5];
        for (int row = 0; row < 5; row++) {
            parts[row] = last(row, depth);
        }
        return byRule(parts);
    }

    public int limit(int depth) {
        range(depth, 1, 20);
        return limitAt(depth);
    }

    private boolean allRead(int depth) {
        return readItems(depth).size() == now.items.size();
    }

    private int stop(int k) {
        if (now.items.isEmpty()) {
            return 0;
        }
        for (int depth = 1;; depth++) {
            if (allRead(depth)) {
                return depth;
            }
            List<Integer> things = byWorth(readThings(depth));
            if (things.size() >= k && worth(things.get(k - 1)) >= limitAt(depth)) {
                return depth;
            }
        }
    }

    public int stopDepth(int k) {
        range(k, 1, 20);
        return stop(k);
    }

    public int cost(int k) {
        range(k, 1, 20);
        return readItems(stop(k)).size() * now.read + 4 * readThings(stop(k)).size() * now.ask;
    }

    public int best(int k, int rank) {
        range(k, 1, 20);
        List<Integer> things = byWorth(readThings(stop(k)));
        List<Integer> answer = things.subList(0, Math.min(k, things.size()));
        index(rank, answer.size());
        return answer.get(rank);
    }

    public int refute(int k, int depth) {
        range(k, 1, 20);
        range(depth, 0, 20);
        found(depth < stop(k));
        Set<Integer> read = readThings(depth);
        for (int thing = 0; thing < 20; thing++) {
            if (!read.contains(thing)) {
                return thing;
            }
        }
        throw new NoSuchElementException();
    }

    private int boundOf(int thing, int depth, boolean isUpper) {
        int[] parts = new int[5];
        for (int row = 0; row < 5; row++) {
            int place = place(row, thing);
            boolean isRead = place != NONE && place < depth;
            parts[row] = isRead ? weighted(row, thing) : isUpper ? last(row, depth) : 0;
        }
        return byRule(parts);
    }

    public int lower(int thing, int depth) {
        index(thing, 20);
        range(depth, 1, 20);
        return boundOf(thing, depth, false);
    }

    public int upper(int thing, int depth) {
        index(thing, 20);
        range(depth, 1, 20);
        return boundOf(thing, depth, true);
    }

    /** Tries all sets of k things as long as they are not too many, and only those that can do otherwise. */
    private boolean isSettled(int k, int depth) {
        List<Integer> things = new ArrayList<>(readThings(depth));
        int limit = limitAt(depth);
        int count = things.size();
        int[] lowers = new int[count];
        int[] uppers = new int[count];
        for (int i = 0; i < count; i++) {
            lowers[i] = boundOf(things.get(i), depth, false);
            uppers[i] = boundOf(things.get(i), depth, true);
        }
        if (count <= 9) {
            for (int set = 0; set < 1 << count; set++) {
                if (Integer.bitCount(set) == k && isSettledSet(set, lowers, uppers, limit)) {
                    return true;
                }
            }
            return false;
        }
        for (int least : lowers) {
            int must = 0;
            int can = 0;
            boolean isOut = least < limit;
            for (int i = 0; i < count; i++) {
                must += uppers[i] > least ? 1 : 0;
                can += lowers[i] >= least ? 1 : 0;
                isOut |= uppers[i] > least && lowers[i] < least;
            }
            if (!isOut && must <= k && can >= k) {
                return true;
            }
        }
        return false;
    }

    private static boolean isSettledSet(int set, int[] lowers, int[] uppers, int limit) {
        for (int i = 0; i < lowers.length; i++) {
            if ((set >> i & 1) == 0) {
                continue;
            }
            if (lowers[i] < limit) {
                return false;
            }
            for (int other = 0; other < lowers.length; other++) {
                if ((set >> other & 1) == 0 && lowers[i] < uppers[other]) {
                    return false;
                }
            }
        }
        return true;
    }

    private int plainStop(int k) {
        if (now.items.isEmpty()) {
            return 0;
        }
        int depth = 1;
        while (!allRead(depth) && !isSettled(k, depth)) {
            depth++;
        }
        return depth;
    }

    public int plainDepth(int k) {
        range(k, 1, 20);
        return plainStop(k);
    }

    public int plainCost(int k) {
        range(k, 1, 20);
        return readItems(plainStop(k)).size() * now.read;
    }

    public boolean holds(int k, int row, int thing, int mark) {
        index(row, 5);
        index(thing, 20);
        range(k, 1, 20);
        range(mark, 0, 99);
        List<Integer> before = byWorth(known());
        State kept = now;
        now = now.copy();
        now.items.removeIf(i -> i.row == row && i.thing == thing);
        now.items.add(new Item(row, thing, mark));
        List<Integer> after = byWorth(known());
        now = kept;
        return before.subList(0, Math.min(k, before.size())).equals(after.subList(0, Math.min(k, after.size())));
    }

    // ---- Merging

    private static final Comparator<Item> AHEAD =
            Comparator.comparing((Item i) -> -i.mark).thenComparing(i -> i.row).thenComparing(i -> i.thing);

    private List<Item> merged() {
        List<Item> merged = new ArrayList<>(now.items);
        merged.sort(AHEAD);
        return merged;
    }

    public int mergedCount() {
        return now.items.size();
    }

    public int mergedThing(int place) {
        index(place, now.items.size());
        return merged().get(place).thing;
    }

    public int mergedRow(int place) {
        index(place, now.items.size());
        return merged().get(place).row;
    }

    private static int merge(List<Item> one, List<Item> other, List<Item> into) {
        int i = 0;
        int j = 0;
        int compared = 0;
        while (i < one.size() && j < other.size()) {
            compared++;
            into.add(AHEAD.compare(one.get(i), other.get(j)) < 0 ? one.get(i++) : other.get(j++));
        }
        into.addAll(one.subList(i, one.size()));
        into.addAll(other.subList(j, other.size()));
        return compared;
    }

    public int comparisons(int row, int other) {
        index(row, 5);
        index(other, 5);
        if (row == other) {
            throw new IllegalArgumentException();
        }
        return merge(row(row), row(other), new ArrayList<>());
    }

    public int allComparisons() {
        List<Item> one = new ArrayList<>();
        List<Item> other = new ArrayList<>();
        List<Item> four = new ArrayList<>();
        int compared = merge(row(0), row(1), one);
        compared += merge(row(2), row(3), other);
        compared += merge(one, other, four);
        return compared + merge(four, row(4), new ArrayList<>());
    }

    public int quantile(int thousandths) {
        range(thousandths, 0, 1000);
        found(!now.items.isEmpty());
        return merged().get((now.items.size() - 1) * thousandths / 1000).mark;
    }

    // ---- Votes

    private List<Integer> chosen() {
        List<Integer> known = new ArrayList<>(known());
        return known.subList(0, Math.min(6, known.size()));
    }

    private boolean prefers(int row, int thing, int other) {
        if (place(row, thing) == NONE) {
            return false;
        }
        return place(row, other) == NONE || place(row, thing) < place(row, other);
    }

    public int candidates() {
        return chosen().size();
    }

    public int prefer(int thing, int other) {
        index(thing, 20);
        index(other, 20);
        int count = 0;
        for (int row = 0; row < 5; row++) {
            count += prefers(row, thing, other) ? 1 : 0;
        }
        return count;
    }

    private boolean beats(int thing, int other) {
        return prefer(thing, other) > prefer(other, thing);
    }

    public int winner() {
        for (int thing : chosen()) {
            boolean beatsAll = true;
            for (int other : chosen()) {
                beatsAll &= thing == other || beats(thing, other);
            }
            if (beatsAll) {
                return thing;
            }
        }
        throw new NoSuchElementException();
    }

    /** All orders of some of the candidates, those that begin alike next to each other, the first ones first. */
    private static void orders(List<Integer> from, int length, List<Integer> begun, List<List<Integer>> into) {
        if (begun.size() == length) {
            into.add(new ArrayList<>(begun));
            return;
        }
        for (Integer thing : from) {
            if (!begun.contains(thing)) {
                begun.add(thing);
                orders(from, length, begun, into);
                begun.remove(begun.size() - 1);
            }
        }
    }

    private List<List<Integer>> orders(int length) {
        List<List<Integer>> all = new ArrayList<>();
        orders(chosen(), length, new ArrayList<>(), all);
        return all;
    }

    public int ring() {
        List<Integer> candidates = chosen();
        boolean[][] beats = new boolean[20][20];
        for (int one : candidates) {
            for (int other : candidates) {
                beats[one][other] = beats(one, other);
            }
        }
        for (int length = 3; length <= candidates.size(); length++) {
            for (List<Integer> ring : orders(length)) {
                boolean isRing = true;
                for (int i = 0; i < length; i++) {
                    isRing &= beats[ring.get(i)][ring.get((i + 1) % length)];
                }
                if (isRing) {
                    return length;
                }
            }
        }
        return NONE;
    }

    private List<Integer> leastOrder(int[] fewest) {
        int[][] prefer = new int[20][20];
        for (int one : chosen()) {
            for (int other : chosen()) {
                prefer[one][other] = prefer(one, other);
            }
        }
        List<Integer> least = null;
        for (List<Integer> order : orders(chosen().size())) {
            int swaps = 0;
            for (int i = 0; i < order.size(); i++) {
                for (int j = i + 1; j < order.size(); j++) {
                    swaps += prefer[order.get(j)][order.get(i)];
                }
            }
            if (least == null || swaps < fewest[0]) {
                least = order;
                fewest[0] = swaps;
            }
        }
        return least;
    }

    public int swaps() {
        int[] fewest = {0};
        leastOrder(fewest);
        return fewest[0];
    }

    public int orderAt(int place) {
        index(place, chosen().size());
        return leastOrder(new int[1]).get(place);
    }

    // ---- Numbers that come by

    private List<Integer> window() {
        int came = now.numbers.size();
        return now.numbers.subList(Math.max(0, came - now.width), came);
    }

    public int windowSize() {
        return window().size();
    }

    public int windowAt(int rank) {
        List<Integer> sorted = new ArrayList<>(window());
        sorted.sort(Comparator.reverseOrder());
        index(rank, sorted.size());
        return sorted.get(rank);
    }

    public int unlike() {
        return new HashSet<>(window()).size();
    }

    /** Lets all numbers come by once more; the counts of the numbers 0 to 99, and the bound behind them. */
    private int[] replay() {
        int[] counts = new int[101];
        for (int number : now.numbers) {
            int taken = 0;
            for (int i = 0; i < 100; i++) {
                taken += counts[i] > 0 ? 1 : 0;
            }
            if (counts[number] > 0 || taken < now.counters) {
                counts[number]++;
                continue;
            }
            for (int i = 0; i < 100; i++) {
                counts[i] = Math.max(0, counts[i] - 1);
            }
            counts[100]++;
        }
        return counts;
    }

    public int counted(int number) {
        range(number, 0, 99);
        return replay()[number];
    }

    public int came(int number) {
        range(number, 0, 99);
        return Collections.frequency(now.numbers, number);
    }

    public int bound() {
        return replay()[100];
    }

    // ---- Pairs and joins

    private Pair pair(int row, int other, int rank) {
        index(row, 5);
        index(other, 5);
        List<Pair> all = new ArrayList<>();
        List<Item> items = row(row);
        List<Item> others = row(other);
        for (int i = 0; i < items.size(); i++) {
            for (int j = 0; j < others.size(); j++) {
                all.add(new Pair(items.get(i).mark + others.get(j).mark, i, j));
            }
        }
        all.sort(Comparator.comparing((Pair p) -> -p.sum).thenComparing(p -> p.first).thenComparing(p -> p.second));
        index(rank, all.size());
        return all.get(rank);
    }

    public int pairSum(int row, int other, int rank) {
        return pair(row, other, rank).sum;
    }

    public int pairPlace(int row, int other, int rank, boolean isSecond) {
        Pair pair = pair(row, other, rank);
        return isSecond ? pair.second : pair.first;
    }

    private List<Integer> both(int row, int other) {
        index(row, 5);
        index(other, 5);
        List<Integer> both = new ArrayList<>();
        for (int thing = 0; thing < 20; thing++) {
            if (markOf(row, thing) != NONE && markOf(other, thing) != NONE) {
                both.add(thing);
            }
        }
        return both;
    }

    public int common(int row, int other) {
        return both(row, other).size();
    }

    public int commonAt(int row, int other, int place) {
        List<Integer> both = both(row, other);
        index(place, both.size());
        return both.get(place);
    }

    // ---- Measures and the second way

    public double meanMark() {
        if (now.items.isEmpty()) {
            return 0.0;
        }
        double sum = 0.0;
        for (Item item : now.items) {
            sum += item.mark;
        }
        return sum / now.items.size();
    }

    public float fill() {
        return now.items.size() / 100.0f;
    }

    public int errors() {
        return 0;
    }

    // ---- Exceptions

    private static void index(int index, int count) {
        if (index < 0 || index >= count) {
            throw new IndexOutOfBoundsException();
        }
    }

    private static void range(int number, int least, int greatest) {
        if (number < least || number > greatest) {
            throw new IllegalArgumentException();
        }
    }

    private static void found(boolean isFound) {
        if (!isFound) {
            throw new NoSuchElementException();
        }
    }
}
