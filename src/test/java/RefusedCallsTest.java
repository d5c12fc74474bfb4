/**
 * Refused calls: for each exception of each call a test of its own; where several apply, the one that is listed
 * first; and a call that throws one leaves no trace, neither in what is answered afterwards nor in what undo does.
 */
public final class RefusedCallsTest {
    private static final String INDEX = "IndexOutOfBoundsException";
    private static final String ARGUMENT = "IllegalArgumentException";
    private static final String NONE_SUCH = "NoSuchElementException";

    private static final Twins.Maker NEW = ToplistHouse::new;
    private static final Twins.Maker EMPTY = Houses::empty;
    private static final Twins.Maker LIVED = Houses::lived;

    /** Traces of houses that have not been called, each with the house that it belongs to. */
    private static final Twins.Maker[] ALL = {NEW, EMPTY, LIVED};
    private static final String[] UNTOUCHED = new String[ALL.length];

    public static void main(String[] args) {
        for (int i = 0; i < ALL.length; i++) {
            UNTOUCHED[i] = Twins.traces(ALL[i], house -> "none");
        }
        changesOfRows();
        changesOfSettings();
        changesOfNumbers();
        rows();
        values();
        depths();
        answers();
        refutes();
        bounds();
        holds();
        merging();
        votes();
        numbersThatCameBy();
        pairs();
        joins();
        severalApply();
        severalApplyToTheState();
        refusedCallsTakeNoPlaceAmongTheEight();
        Check.finish();
    }

    /** Refused by any house. */
    private static void refused(String what, String exception, Twins.Use call) {
        for (Twins.Maker maker : ALL) {
            refusedBy(maker, what, exception, call);
        }
    }

    private static void refusedBy(Twins.Maker maker, String what, String exception, Twins.Use call) {
        for (int i = 0; i < ALL.length; i++) {
            if (ALL[i] == maker) {
                Twins.refused(what + ", house " + i, maker, exception, call, UNTOUCHED[i]);
            }
        }
    }

    private static void changesOfRows() {
        refused("2 no such row", INDEX, h -> h.put(5, 0, 0));
        refused("2 no such row below", INDEX, h -> h.put(-1, 0, 0));
        refused("2 no such thing", INDEX, h -> h.put(0, 20, 0));
        refused("2 no such thing below", INDEX, h -> h.put(0, -1, 0));
        refused("2 mark too large, thing with an item", ARGUMENT, h -> h.put(0, 0, 100));
        refused("2 mark too small, thing with an item", ARGUMENT, h -> h.put(0, 0, -1));
        refused("2 mark too large, unknown thing", ARGUMENT, h -> h.put(4, 19, 100));
        refused("2 mark too small, unknown thing", ARGUMENT, h -> h.put(4, 19, -1));
        refused("3 no such row", INDEX, h -> h.drop(5, 0));
        refused("3 no such row below", INDEX, h -> h.drop(-1, 0));
        refused("3 no such thing", INDEX, h -> h.drop(0, 20));
        refused("3 no such thing below", INDEX, h -> h.drop(0, -1));
        refused("3 an unknown thing", NONE_SUCH, h -> h.drop(0, 19));
        refused("3 a row without items", NONE_SUCH, h -> h.drop(4, 0));
        refusedBy(NEW, "3 no item in this row, but in others", NONE_SUCH, h -> h.drop(2, 1));
        refusedBy(LIVED, "3 dropped before", NONE_SUCH, h -> h.drop(0, 3));
    }

    private static void changesOfSettings() {
        refused("4 no such row", INDEX, h -> h.setWeight(5, 3));
        refused("4 no such row below", INDEX, h -> h.setWeight(-1, 3));
        refused("4 weight too large", ARGUMENT, h -> h.setWeight(2, 6));
        refused("4 weight too small", ARGUMENT, h -> h.setWeight(2, -1));
        refused("5 rule too large", ARGUMENT, h -> h.setRule(3));
        refused("5 rule too small", ARGUMENT, h -> h.setRule(-1));
        refused("6 read too large", ARGUMENT, h -> h.setCosts(100, 50));
        refused("6 read too small", ARGUMENT, h -> h.setCosts(-1, 50));
        refused("6 ask too large", ARGUMENT, h -> h.setCosts(50, 100));
        refused("6 ask too small", ARGUMENT, h -> h.setCosts(50, -1));
        refused("6 both", ARGUMENT, h -> h.setCosts(100, -1));
        refused("6 sums that would be in range", ARGUMENT, h -> h.setCosts(-1, 101));
    }

    private static void changesOfNumbers() {
        refused("7 width too large", ARGUMENT, h -> h.setWindow(11, 2));
        refused("7 width too small", ARGUMENT, h -> h.setWindow(0, 2));
        refused("7 too many counters", ARGUMENT, h -> h.setWindow(5, 5));
        refused("7 too few counters", ARGUMENT, h -> h.setWindow(5, 0));
        refused("7 both", ARGUMENT, h -> h.setWindow(0, 5));
        refused("8 number too large", ARGUMENT, h -> h.push(100));
        refused("8 number too small", ARGUMENT, h -> h.push(-1));
    }

    private static void rows() {
        refused("10 no such row", INDEX, h -> h.itemCount(5));
        refused("11 no such row", INDEX, h -> h.thingAt(5, 0));
        refused("11 no such place", INDEX, h -> h.thingAt(0, 4));
        refused("11 a row without items", INDEX, h -> h.thingAt(4, 0));
        refused("11 a place below", INDEX, h -> h.thingAt(0, -1));
        refused("12 no such row", INDEX, h -> h.markAt(5, 0));
        refused("12 no such place", INDEX, h -> h.markAt(0, 4));
        refused("12 a row without items", INDEX, h -> h.markAt(4, 0));
        refused("12 a place below", INDEX, h -> h.markAt(0, -1));
        refusedBy(LIVED, "11 the place of an item that was dropped", INDEX, h -> h.thingAt(0, 3));
        refusedBy(LIVED, "12 the place of an item that was dropped", INDEX, h -> h.markAt(0, 3));
        refused("13 no such row", INDEX, h -> h.placeOf(5, 0));
        refused("13 no such thing", INDEX, h -> h.placeOf(0, 20));
        refused("13 no item in the row", NONE_SUCH, h -> h.placeOf(4, 0));
        refusedBy(LIVED, "13 dropped before", NONE_SUCH, h -> h.placeOf(0, 3));
    }

    private static void values() {
        refused("14 no such thing", INDEX, h -> h.value(20));
        refused("14 no such thing below", INDEX, h -> h.value(-1));
        refused("16 no such rank", INDEX, h -> h.ranked(5));
        refused("16 a rank below", INDEX, h -> h.ranked(-1));
        refusedBy(EMPTY, "16 no known things", INDEX, h -> h.ranked(0));
        refused("17 no such thing", INDEX, h -> h.rankOf(20));
        refused("17 no such thing below", INDEX, h -> h.rankOf(-1));
        refused("17 not known", NONE_SUCH, h -> h.rankOf(19));
        refusedBy(EMPTY, "17 known no more", NONE_SUCH, h -> h.rankOf(0));
    }

    private static void depths() {
        refused("18 depth too small", ARGUMENT, h -> h.limit(0));
        refused("18 depth too large", ARGUMENT, h -> h.limit(21));
        refused("19 k too small", ARGUMENT, h -> h.stopDepth(0));
        refused("19 k too large", ARGUMENT, h -> h.stopDepth(21));
        refused("20 k too small", ARGUMENT, h -> h.cost(0));
        refused("20 k too large", ARGUMENT, h -> h.cost(21));
        refused("25 k too small", ARGUMENT, h -> h.plainDepth(0));
        refused("25 k too large", ARGUMENT, h -> h.plainDepth(21));
        refused("26 k too small", ARGUMENT, h -> h.plainCost(0));
        refused("26 k too large", ARGUMENT, h -> h.plainCost(21));
    }

    private static void answers() {
        refused("21 k too small", ARGUMENT, h -> h.best(0, 0));
        refused("21 k too large", ARGUMENT, h -> h.best(21, 0));
        refused("21 no such rank", INDEX, h -> h.best(20, 20));
        refused("21 a rank below", INDEX, h -> h.best(20, -1));
        // Three things have been read, but the answer has no more than k.
        refused("21 the rank k", INDEX, h -> h.best(1, 1));
        refusedBy(NEW, "21 fewer things than k", INDEX, h -> h.best(20, 5));
        refusedBy(EMPTY, "21 no things", INDEX, h -> h.best(20, 0));
    }

    private static void refutes() {
        refused("22 k too small", ARGUMENT, h -> h.refute(0, 0));
        refused("22 k too large", ARGUMENT, h -> h.refute(21, 0));
        refused("22 depth too small", ARGUMENT, h -> h.refute(1, -1));
        refused("22 depth too large", ARGUMENT, h -> h.refute(1, 21));
        refused("22 the depth is too great for any k", NONE_SUCH, h -> h.refute(20, 20));
        refusedBy(EMPTY, "22 it stops at the depth 0", NONE_SUCH, h -> h.refute(1, 0));
        // For one thing the new house is read to the depth 2.
        refusedBy(NEW, "22 the depth of the stop itself", NONE_SUCH, h -> h.refute(1, 2));
        Check.due("22 the depth ahead of it", () -> new ToplistHouse().refute(1, 1), 3);
    }

    private static void bounds() {
        refused("23 no such thing", INDEX, h -> h.lower(20, 1));
        refused("23 no such thing below", INDEX, h -> h.lower(-1, 1));
        refused("23 depth too small", ARGUMENT, h -> h.lower(0, 0));
        refused("23 depth too large", ARGUMENT, h -> h.lower(0, 21));
        refused("24 no such thing", INDEX, h -> h.upper(20, 1));
        refused("24 no such thing below", INDEX, h -> h.upper(-1, 1));
        refused("24 depth too small", ARGUMENT, h -> h.upper(0, 0));
        refused("24 depth too large", ARGUMENT, h -> h.upper(0, 21));
    }

    private static void holds() {
        refused("27 no such row", INDEX, h -> h.holds(1, 5, 0, 0));
        refused("27 no such row below", INDEX, h -> h.holds(1, -1, 0, 0));
        refused("27 no such thing", INDEX, h -> h.holds(1, 0, 20, 0));
        refused("27 no such thing below", INDEX, h -> h.holds(1, 0, -1, 0));
        refused("27 k too small", ARGUMENT, h -> h.holds(0, 0, 0, 0));
        refused("27 k too large", ARGUMENT, h -> h.holds(21, 0, 0, 0));
        refused("27 mark too small", ARGUMENT, h -> h.holds(1, 0, 0, -1));
        refused("27 mark too large", ARGUMENT, h -> h.holds(1, 0, 0, 100));
    }

    private static void merging() {
        refusedBy(NEW, "29 no such place", INDEX, h -> h.mergedThing(10));
        refusedBy(EMPTY, "29 no items", INDEX, h -> h.mergedThing(0));
        refused("29 a place below", INDEX, h -> h.mergedThing(-1));
        refusedBy(NEW, "30 no such place", INDEX, h -> h.mergedRow(10));
        refusedBy(EMPTY, "30 no items", INDEX, h -> h.mergedRow(0));
        refused("30 a place below", INDEX, h -> h.mergedRow(-1));
        refused("31 no such row", INDEX, h -> h.comparisons(5, 0));
        refused("31 no such other row", INDEX, h -> h.comparisons(0, 5));
        refused("31 no such row below", INDEX, h -> h.comparisons(-1, 0));
        refused("31 no such other row below", INDEX, h -> h.comparisons(0, -1));
        refused("31 both are the same", ARGUMENT, h -> h.comparisons(0, 0));
        refused("31 both are the same row without items", ARGUMENT, h -> h.comparisons(4, 4));
        refused("33 too large", ARGUMENT, h -> h.quantile(1001));
        refused("33 too small", ARGUMENT, h -> h.quantile(-1));
        refusedBy(EMPTY, "33 no items", NONE_SUCH, h -> h.quantile(0));
        refusedBy(EMPTY, "33 no items, at the other end", NONE_SUCH, h -> h.quantile(1000));
    }

    private static void votes() {
        refused("35 no such thing", INDEX, h -> h.prefer(20, 0));
        refused("35 no such other thing", INDEX, h -> h.prefer(0, 20));
        refused("35 no such thing below", INDEX, h -> h.prefer(-1, 0));
        refused("35 no such other thing below", INDEX, h -> h.prefer(0, -1));
        refused("35 twice the same that is not there", INDEX, h -> h.prefer(20, 20));
        refusedBy(EMPTY, "36 no candidates", NONE_SUCH, h -> h.winner());
        refusedBy(NEW, "36 a ring", NONE_SUCH, h -> h.winner());
        refused("39 no such place", INDEX, h -> h.orderAt(5));
        refused("39 a place below", INDEX, h -> h.orderAt(-1));
        refusedBy(EMPTY, "39 no candidates", INDEX, h -> h.orderAt(0));
    }

    private static void numbersThatCameBy() {
        refusedBy(NEW, "41 nothing came by", INDEX, h -> h.windowAt(0));
        refusedBy(LIVED, "41 the rank of the width", INDEX, h -> h.windowAt(4));
        refused("41 a rank below", INDEX, h -> h.windowAt(-1));
        refused("43 too small", ARGUMENT, h -> h.counted(-1));
        refused("43 too large", ARGUMENT, h -> h.counted(100));
        refused("44 too small", ARGUMENT, h -> h.came(-1));
        refused("44 too large", ARGUMENT, h -> h.came(100));
    }

    private static void pairs() {
        refused("46 no such row", INDEX, h -> h.pairSum(5, 0, 0));
        refused("46 no such other row", INDEX, h -> h.pairSum(0, 5, 0));
        refused("46 a row without items", INDEX, h -> h.pairSum(4, 0, 0));
        refused("46 another row without items", INDEX, h -> h.pairSum(0, 4, 0));
        refused("46 a rank below", INDEX, h -> h.pairSum(0, 1, -1));
        refusedBy(NEW, "46 no such pair", INDEX, h -> h.pairSum(0, 1, 12));
        refused("47 no such row", INDEX, h -> h.pairPlace(5, 0, 0, false));
        refused("47 no such other row", INDEX, h -> h.pairPlace(0, 5, 0, true));
        refused("47 a row without items", INDEX, h -> h.pairPlace(4, 0, 0, true));
        refused("47 another row without items", INDEX, h -> h.pairPlace(0, 4, 0, false));
        refused("47 a rank below", INDEX, h -> h.pairPlace(0, 1, -1, true));
        refusedBy(NEW, "47 no such pair", INDEX, h -> h.pairPlace(0, 1, 12, false));
        refusedBy(NEW, "47 no such pair, second", INDEX, h -> h.pairPlace(0, 1, 12, true));
    }

    private static void joins() {
        refused("48 no such row", INDEX, h -> h.common(5, 0));
        refused("48 no such other row", INDEX, h -> h.common(0, 5));
        refused("48 twice the same that is not there", INDEX, h -> h.common(5, 5));
        refused("49 no such row", INDEX, h -> h.commonAt(5, 0, 0));
        refused("49 no such other row", INDEX, h -> h.commonAt(0, 5, 0));
        refused("49 nothing in both", INDEX, h -> h.commonAt(0, 4, 0));
        refused("49 a place below", INDEX, h -> h.commonAt(0, 0, -1));
        refusedBy(NEW, "49 not so many", INDEX, h -> h.commonAt(0, 2, 2));
    }

    private static void severalApply() {
        refused("2 row and mark", INDEX, h -> h.put(5, 0, 100));
        refused("2 thing and mark", INDEX, h -> h.put(0, 20, -1));
        refused("2 row, thing and mark", INDEX, h -> h.put(-1, -1, -1));
        refused("3 row, and no item", INDEX, h -> h.drop(5, 19));
        refused("3 thing, and no item", INDEX, h -> h.drop(4, 20));
        refused("4 row and weight", INDEX, h -> h.setWeight(5, 6));
        refused("4 row and weight below", INDEX, h -> h.setWeight(-1, -1));
        refused("13 row, and no item", INDEX, h -> h.placeOf(5, 19));
        refused("13 thing, and no item", INDEX, h -> h.placeOf(4, 20));
        refused("21 k and rank", ARGUMENT, h -> h.best(0, -1));
        refused("21 k and rank above", ARGUMENT, h -> h.best(21, 20));
        refused("23 thing and depth", INDEX, h -> h.lower(20, 0));
        refused("23 thing and depth, the other ends", INDEX, h -> h.lower(-1, 21));
        refused("24 thing and depth", INDEX, h -> h.upper(20, 0));
        refused("24 thing and depth, the other ends", INDEX, h -> h.upper(-1, 21));
        refused("27 k and row", INDEX, h -> h.holds(0, 5, 0, 0));
        refused("27 k and thing", INDEX, h -> h.holds(21, 0, 20, 0));
        refused("27 row and mark", INDEX, h -> h.holds(1, -1, 0, 100));
        refused("27 thing and mark", INDEX, h -> h.holds(1, 0, -1, -1));
        refused("27 all", INDEX, h -> h.holds(0, 5, 20, 100));
        refused("31 both are the same that is not there", INDEX, h -> h.comparisons(5, 5));
        refused("31 both are the same below", INDEX, h -> h.comparisons(-1, -1));
    }

    private static void severalApplyToTheState() {
        refused("22 depth too large, and not less than the stop", ARGUMENT, h -> h.refute(1, 21));
        refused("22 k too small, and the depth not less than the stop", ARGUMENT, h -> h.refute(0, 20));
        refused("22 k too large, and the depth not less than the stop", ARGUMENT, h -> h.refute(21, 20));
        refused("17 no such thing, and not known", INDEX, h -> h.rankOf(Integer.MAX_VALUE));
        refusedBy(EMPTY, "33 too large, and no items", ARGUMENT, h -> h.quantile(1001));
        refusedBy(EMPTY, "33 too small, and no items", ARGUMENT, h -> h.quantile(-1));
        refusedBy(EMPTY, "21 k, and no things", ARGUMENT, h -> h.best(21, 0));
        refusedBy(EMPTY, "22 k, and no things", ARGUMENT, h -> h.refute(0, 0));
    }

    private static void refusedCallsTakeNoPlaceAmongTheEight() {
        ToplistHouse house = new ToplistHouse();
        for (int change = 0; change < 8; change++) {
            house.put(3, change, 50);
            for (int refusal = 0; refusal < 5; refusal++) {
                Check.answerOf(() -> house.put(3, 19, 100));
                Check.answerOf(() -> house.drop(3, 19));
                Check.answerOf(() -> house.push(100));
            }
        }
        Check.due("8 all eight changes can be undone", () -> Houses.countUndone(house), 8);
        Check.due("8 up to the first one", () -> house.itemCount(3), 0);
    }
}
