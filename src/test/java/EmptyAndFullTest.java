/** Empty and full: rows, houses, votes, pairs and measures with nothing, with one item, and with all there can be. */
public final class EmptyAndFullTest {
    private static final String INDEX = "throws IndexOutOfBoundsException";
    private static final String NONE_SUCH = "throws NoSuchElementException";
    private static final int NONE = ToplistHouse.NONE;

    public static void main(String[] args) {
        rowWithoutItems();
        rowThatLosesItsLastItem();
        rowWithAllThings();
        noKnownThing();
        knownByAMarkOf0();
        readingWithoutItems();
        noRowWithAWeight();
        readingWithoutWeights();
        leastOfRowsWithAWeight();
        mergingOfFewRows();
        quantilesOfFewItems();
        fullHouse();
        upToSixCandidates();
        ringsOfCandidatesAlone();
        votesOfNoneAndOne();
        pairsOfOneAndOfAll();
        measures();
        Check.finish();
    }

    /** "no items in the others": the rows 3 and 4 of a new house. */
    private static void rowWithoutItems() {
        ToplistHouse house = new ToplistHouse();
        for (int row = 3; row < 5; row++) {
            int r = row;
            Check.due("10 no items", () -> house.itemCount(r), 0);
            Check.due("11 no items", () -> house.thingAt(r, 0), INDEX);
            Check.due("12 no items", () -> house.markAt(r, 0), INDEX);
            Check.due("31 no items", () -> house.comparisons(r, 0) + house.comparisons(0, r), 0);
            Check.due("46 no items", () -> house.pairSum(r, 0, 0), INDEX);
            Check.due("46 no items in the other row", () -> house.pairSum(0, r, 0), INDEX);
            Check.due("47 no items", () -> house.pairPlace(r, r, 0, true), INDEX);
            Check.due("48 no items", () -> house.common(r, 0) + house.common(0, r) + house.common(r, r), 0);
            Check.due("49 no items", () -> house.commonAt(r, r, 0), INDEX);
            for (int thing = 0; thing < 20; thing++) {
                int t = thing;
                Check.due("13 no items, thing " + t, () -> house.placeOf(r, t), NONE_SUCH);
                Check.due("3 no items, thing " + t, () -> house.drop(r, t), NONE_SUCH);
            }
        }
        Check.due("31 both without items", () -> house.comparisons(3, 4), 0);
    }

    private static void rowThatLosesItsLastItem() {
        ToplistHouse house = Houses.of(4, 19, 0);
        Check.due("3 the last item", () -> house.drop(4, 19), 0);
        Check.due("10 none left", () -> house.itemCount(4), 0);
        Check.due("11 none left", () -> house.thingAt(4, 0), INDEX);
        Check.due("15 none known", house::knownCount, 0);
        Check.due("2 a first item again", () -> house.put(4, 19, 3), NONE);
        Check.due("12 the new mark", () -> house.markAt(4, 0), 3);
    }

    /** "a thing has at most one item in a row": a full row stays full, and has 20 items. */
    private static void rowWithAllThings() {
        ToplistHouse house = Houses.oneRow(2);
        Check.due("10 full", () -> house.itemCount(2), 20);
        for (int place = 0; place < 20; place++) {
            int p = place;
            Check.due("11 full, place " + p, () -> house.thingAt(2, p), p);
            Check.due("12 full, place " + p, () -> house.markAt(2, p), 99 - p);
            Check.due("13 full, thing " + p, () -> house.placeOf(2, p), p);
            Check.due("16 full, rank " + p, () -> house.ranked(p), p);
        }
        Check.due("2 another mark in a full row", () -> house.put(2, 19, 99), 80);
        Check.due("10 still full", () -> house.itemCount(2), 20);
        Check.due("13 behind the lesser thing of the same mark", () -> house.placeOf(2, 19), 1);
        Check.due("3 out of a full row", () -> house.drop(2, 0), 99);
        Check.due("10 one less", () -> house.itemCount(2), 19);
        Check.due("11 the last of 19", () -> house.thingAt(2, 18), 18);
        Check.due("11 behind the last of 19", () -> house.thingAt(2, 19), INDEX);
        Check.due("2 full again", () -> house.put(2, 0, 0), NONE);
        Check.due("11 at the last place", () -> house.thingAt(2, 19), 0);
        Check.due("12 at the last place", () -> house.markAt(2, 19), 0);
    }

    private static void noKnownThing() {
        ToplistHouse house = Houses.empty();
        Check.due("15 none", house::knownCount, 0);
        Check.due("16 none", () -> house.ranked(0), INDEX);
        for (int thing = 0; thing < 20; thing++) {
            int t = thing;
            Check.due("14 not known, " + t, () -> house.value(t), 0);
            Check.due("17 not known, " + t, () -> house.rankOf(t), NONE_SUCH);
            Check.due("35 none has an item, " + t, () -> house.prefer(t, 19 - t), 0);
        }
        // The first k of the ranking, or all, are nothing; with an item they would be one thing.
        for (int k = 1; k <= 20; k++) {
            int number = k;
            Check.due("27 none, k " + k, () -> house.holds(number, 4, 19, 0), false);
        }
        Check.due("15 looks make nothing known", house::knownCount, 0);
    }

    /** "The known things are those that have an item in some row", whatever its mark and weight. */
    private static void knownByAMarkOf0() {
        ToplistHouse house = Houses.of(4, 19, 0);
        house.setWeight(4, 0);
        Check.due("15 known", house::knownCount, 1);
        Check.due("16 known", () -> house.ranked(0), 19);
        Check.due("17 known", () -> house.rankOf(19), 0);
        Check.due("14 and of no value", () -> house.value(19), 0);
        Check.due("34 a candidate", house::candidates, 1);
        Check.due("19 read", () -> house.stopDepth(1), 1);
        Check.due("21 read", () -> house.best(1, 0), 19);
        Check.due("22 nothing was read at the depth 0", () -> house.refute(1, 0), 0);
        Check.due("35 has an item", () -> house.prefer(19, 0), 1);
        Check.due("48 has an item", () -> house.common(4, 4), 1);
        Check.due("3 had an item", () -> house.drop(4, 19), 0);
        Check.due("15 known no more", house::knownCount, 0);
    }

    /** "Without items it stops at the depth 0", with each rule and for each k. */
    private static void readingWithoutItems() {
        ToplistHouse house = Houses.empty();
        house.setCosts(99, 99);
        for (int rule = ToplistHouse.SUM; rule <= ToplistHouse.GREATEST; rule++) {
            house.setRule(rule);
            for (int k = 1; k <= 20; k++) {
                int number = k;
                String what = "rule " + rule + ", k or depth " + k;
                Check.due("18 no items, " + what, () -> house.limit(number), 0);
                Check.due("19 no items, " + what, () -> house.stopDepth(number), 0);
                Check.due("20 no items, " + what, () -> house.cost(number), 0);
                Check.due("21 no items, " + what, () -> house.best(number, 0), INDEX);
                Check.due("22 no items, " + what, () -> house.refute(number, 0), NONE_SUCH);
                Check.due("23 no items, " + what, () -> house.lower(0, number), 0);
                Check.due("24 no items, " + what, () -> house.upper(19, number), 0);
                Check.due("25 no items, " + what, () -> house.plainDepth(number), 0);
                Check.due("26 no items, " + what, () -> house.plainCost(number), 0);
            }
            Check.due("52 no items, rule " + rule, house::errors, 0);
        }
    }

    private static ToplistHouse newHouseWithoutWeights() {
        ToplistHouse house = new ToplistHouse();
        for (int row = 0; row < 5; row++) {
            house.setWeight(row, 0);
        }
        return house;
    }

    /** "0 if there is no such row": no row with a weight above 0; the other rules then find nothing but 0, too. */
    private static void noRowWithAWeight() {
        ToplistHouse house = newHouseWithoutWeights();
        for (int rule = ToplistHouse.SUM; rule <= ToplistHouse.GREATEST; rule++) {
            house.setRule(rule);
            for (int thing = 0; thing < 20; thing++) {
                int t = thing;
                String what = "rule " + rule + ", thing or depth " + t;
                Check.due("14 no weights, " + what, () -> house.value(t), 0);
                Check.due("18 no weights, " + what, () -> house.limit(t + 1), 0);
                Check.due("23 no weights, " + what, () -> house.lower(t, 1), 0);
                Check.due("24 no weights, " + what, () -> house.upper(t, 1), 0);
            }
            for (int rank = 0; rank < 5; rank++) {
                int r = rank;
                Check.due("16 no weights, by numbers alone, " + r, () -> house.ranked(r), r);
                Check.due("17 no weights, by numbers alone, " + r, () -> house.rankOf(r), r);
            }
        }
    }

    /** All values and limits are 0, so it stops as soon as k things were read: three at once, 4 at the depth 3. */
    private static void readingWithoutWeights() {
        ToplistHouse house = newHouseWithoutWeights();
        int[] depths = {1, 1, 1, 3, 4, 4};
        int[] costs = {15, 15, 15, 25, 30, 30};
        int[] reads = {3, 3, 3, 9, 10, 10};
        for (int rule = ToplistHouse.SUM; rule <= ToplistHouse.GREATEST; rule++) {
            house.setRule(rule);
            for (int k = 1; k <= 6; k++) {
                int number = k;
                String what = "rule " + rule + ", k " + k;
                Check.due("19 no weights, " + what, () -> house.stopDepth(number), depths[number - 1]);
                Check.due("20 no weights, " + what, () -> house.cost(number), costs[number - 1]);
                Check.due("25 no weights, " + what, () -> house.plainDepth(number), depths[number - 1]);
                Check.due("26 no weights, " + what, () -> house.plainCost(number), reads[number - 1]);
            }
            Check.due("21 the ranking of what was read", () -> house.best(4, 3), 4);
            Check.due("16 and not that of all", () -> house.ranked(3), 3);
            Check.due("21 all were read", () -> house.best(5, 3) * 10 + house.best(5, 4), 34);
            Check.due("22 the depth 2 has read 0, 1 and 2", () -> house.refute(4, 2), 3);
            Check.due("22 the depth 3 has read 4, too", () -> house.refute(5, 3), 3);
            Check.due("52 the same values", house::errors, 0);
            Check.due("27 no mark counts", () -> house.holds(20, 3, 3, 99), true);
            Check.due("27 one more is known", () -> house.holds(6, 3, 19, 99), false);
            Check.due("27 one more is known behind k", () -> house.holds(5, 3, 19, 99), true);
        }
    }

    private static void leastOfRowsWithAWeight() {
        ToplistHouse house = Houses.of(0, 5, 40, 1, 5, 30, 2, 5, 0);
        house.setRule(ToplistHouse.LEAST);
        Check.due("14 rows without the thing count 0", () -> house.value(5), 0);
        house.setWeight(3, 0);
        house.setWeight(4, 0);
        Check.due("14 a mark of 0", () -> house.value(5), 0);
        Check.due("18 a mark of 0", () -> house.limit(1), 0);
        house.setWeight(2, 0);
        Check.due("14 a row without a weight does not count 0", () -> house.value(5), 30);
        Check.due("18 a row without a weight does not count 0", () -> house.limit(1), 30);
        Check.due("23 a row without a weight does not count 0", () -> house.lower(5, 1), 30);
        Check.due("24 a row without a weight does not count 0", () -> house.upper(19, 1), 30);
        house.setWeight(1, 5);
        Check.due("14 the least weighted mark", () -> house.value(5), 40);
        house.setWeight(0, 0);
        Check.due("14 one row alone", () -> house.value(5), 150);
        Check.due("18 one row alone", () -> house.limit(1), 150);
        house.setWeight(1, 0);
        Check.due("14 no row", () -> house.value(5), 0);
        Check.due("18 no row", () -> house.limit(1), 0);
    }

    private static void mergingOfFewRows() {
        ToplistHouse empty = Houses.empty();
        Check.due("28 none", empty::mergedCount, 0);
        Check.due("29 none", () -> empty.mergedThing(0), INDEX);
        Check.due("30 none", () -> empty.mergedRow(0), INDEX);
        Check.due("32 none", empty::allComparisons, 0);
        for (int row = 0; row < 5; row++) {
            ToplistHouse house = Houses.of(row, 19, 7, row, 3, 9);
            int r = row;
            Check.due("28 only row " + row, house::mergedCount, 2);
            Check.due("30 only row " + row, () -> house.mergedRow(1), r);
            Check.due("32 only row " + row + ", nothing to compare", house::allComparisons, 0);
            for (int other = 0; other < row; other++) {
                int o = other;
                // Whichever the pair is, its rows meet in just one of the four merges.
                Check.due("32 rows " + other + " and " + row,
                        () -> Houses.of(r, 19, 7, o, 3, 9).allComparisons(), 1);
                Check.due("31 rows " + other + " and " + row,
                        () -> Houses.of(r, 19, 7, o, 3, 9).comparisons(o, r), 1);
            }
        }
    }

    private static void quantilesOfFewItems() {
        ToplistHouse one = Houses.of(4, 19, 0);
        Check.due("33 one item", () -> one.quantile(0) + one.quantile(500) + one.quantile(1000), 0);
        ToplistHouse two = Houses.of(4, 19, 0, 3, 19, 99);
        Check.due("33 two items, the greatest", () -> two.quantile(0), 99);
        Check.due("33 two items, rounded down", () -> two.quantile(999), 99);
        Check.due("33 two items, the least", () -> two.quantile(1000), 0);
        ToplistHouse full = Houses.full();
        // 99 * 10 / 1000 is less than 1, 99 * 11 / 1000 is not; 99 * 999 / 1000 is less than 99.
        Check.due("33 hundred items, place 0", () -> full.quantile(10), 80);
        Check.due("33 hundred items, place 1", () -> full.quantile(11), 79);
        Check.due("33 hundred items, place 98", () -> full.quantile(999), 1);
        Check.due("33 hundred items, place 99", () -> full.quantile(1000), 0);
        // 10 * 100 / 1000 is just 1.
        ToplistHouse eleven = new ToplistHouse();
        eleven.put(4, 0, 99);
        Check.due("33 eleven items, just below a place", () -> eleven.quantile(99), 99);
        Check.due("33 eleven items, just a place", () -> eleven.quantile(100), 95);
    }

    private static void fullHouse() {
        ToplistHouse house = Houses.full();
        Check.due("28 full", house::mergedCount, 100);
        Check.due("15 full", house::knownCount, 20);
        Check.due("2 another mark in a full house", () -> house.put(4, 19, 81), 80);
        Check.due("28 still full", house::mergedCount, 100);
        Check.due("29 its first item", () -> house.mergedThing(0) * 10 + house.mergedRow(0), 194);
        // Row 1 ends ahead of one item of row 0, row 3 of one of row 2, row 2 of two of rows 0 and 1, row 4 of four.
        Check.due("32 full", house::allComparisons, 39 + 39 + 78 + 96);
        for (int k = 1; k <= 20; k++) {
            int number = k;
            Check.due("19 full, k " + k, () -> house.stopDepth(number), number);
            Check.due("20 full, k " + k, () -> house.cost(number), 9 * number);
            Check.due("25 full, k " + k, () -> house.plainDepth(number), number);
            Check.due("26 full, k " + k, () -> house.plainCost(number), 5 * number);
            Check.due("22 full, k " + k + ", at the depth ahead", () -> house.refute(number, number - 1), 0);
            Check.due("22 full, k " + k + ", at the stop", () -> house.refute(number, number), NONE_SUCH);
        }
    }

    /** "The candidates are the known things with the least numbers, at most 6." */
    private static void upToSixCandidates() {
        ToplistHouse house = Houses.empty();
        for (int known = 1; known <= 20; known++) {
            // The greatest things come first, each with a greater mark than those before it.
            house.put(known % 5, 20 - known, 50 + known);
            int count = Math.min(known, 6);
            int least = 20 - known;
            Check.due("34 of " + known, house::candidates, count);
            Check.due("39 of " + known + ", the last place", () -> house.orderAt(count - 1) < least + count, true);
            Check.due("39 of " + known + ", behind the last place", () -> house.orderAt(count), INDEX);
        }
        Check.due("34 still 6", house::candidates, 6);
        for (int thing = 0; thing < 15; thing++) {
            house.drop((20 - thing) % 5, thing);
        }
        Check.due("34 of the five that are left", house::candidates, 5);
        Check.due("39 behind the last of five", () -> house.orderAt(5), INDEX);
    }

    private static void ringsOfCandidatesAlone() {
        ToplistHouse house = Houses.votes(new int[] {0, 1, 2, 3, 4, 5, 17, 18, 19},
                new int[] {0, 1, 2, 3, 4, 5, 18, 19, 17}, new int[] {0, 1, 2, 3, 4, 5, 19, 17, 18});
        Check.due("37 a ring of things that are no candidates", house::ring, NONE);
        Check.due("36 of nine known things", house::winner, 0);
        Check.due("38 of nine known things", house::swaps, 0);
        for (int thing = 0; thing < 3; thing++) {
            for (int row = 0; row < 3; row++) {
                house.drop(row, thing);
            }
        }
        Check.due("37 now they are candidates", house::ring, 3);
        Check.due("36 ahead of the ring", house::winner, 3);
        Check.due("38 a ring of three rows", house::swaps, 4);
        Check.due("39 the last of the ring", () -> house.orderAt(5), 19);
    }

    private static void votesOfNoneAndOne() {
        ToplistHouse none = Houses.empty();
        Check.due("34 none", none::candidates, 0);
        Check.due("36 none", none::winner, NONE_SUCH);
        Check.due("37 none", none::ring, NONE);
        Check.due("38 none", none::swaps, 0);
        Check.due("39 none", () -> none.orderAt(0), INDEX);
        ToplistHouse one = Houses.of(0, 19, 0);
        Check.due("34 one", one::candidates, 1);
        Check.due("36 one", one::winner, 19);
        Check.due("37 one", one::ring, NONE);
        Check.due("38 one", one::swaps, 0);
        Check.due("39 one", () -> one.orderAt(0), 19);
        Check.due("39 behind one", () -> one.orderAt(1), INDEX);
        ToplistHouse two = Houses.of(0, 19, 0, 1, 18, 0);
        Check.due("36 two that are even", two::winner, NONE_SUCH);
        Check.due("37 two", two::ring, NONE);
        Check.due("38 two", two::swaps, 1);
        Check.due("39 two", () -> two.orderAt(0) * 100 + two.orderAt(1), 1819);
    }

    private static void pairsOfOneAndOfAll() {
        ToplistHouse one = Houses.of(0, 19, 0, 4, 0, 99);
        Check.due("46 one pair", () -> one.pairSum(0, 4, 0), 99);
        Check.due("46 behind one pair", () -> one.pairSum(0, 4, 1), INDEX);
        Check.due("47 one pair", () -> one.pairPlace(0, 4, 0, false) + one.pairPlace(0, 4, 0, true), 0);
        Check.due("47 behind one pair", () -> one.pairPlace(0, 4, 1, false), INDEX);
        ToplistHouse wide = Houses.oneRow(1);
        wide.put(3, 7, 1);
        for (int rank = 0; rank < 20; rank++) {
            int r = rank;
            Check.due("46 a full row and one item, " + r, () -> wide.pairSum(1, 3, r), 100 - r);
            Check.due("47 a full row and one item, " + r, () -> wide.pairPlace(1, 3, r, false), r);
            Check.due("47 one item and a full row, " + r, () -> wide.pairPlace(3, 1, r, true), r);
        }
        Check.due("46 behind 20 pairs", () -> wide.pairSum(1, 3, 20), INDEX);
        Check.due("46 the last of 400 of one row", () -> wide.pairSum(1, 1, 399), 160);
        Check.due("46 behind 400 of one row", () -> wide.pairSum(1, 1, 400), INDEX);
        Check.due("48 one in both", () -> wide.common(1, 3), 1);
        Check.due("49 one in both", () -> wide.commonAt(1, 3, 0), 7);
        Check.due("49 behind one in both", () -> wide.commonAt(1, 3, 1), INDEX);
        Check.due("48 all 20", () -> wide.common(1, 1), 20);
        Check.due("49 the last of 20", () -> wide.commonAt(1, 1, 19), 19);
        Check.due("49 behind 20", () -> wide.commonAt(1, 1, 20), INDEX);
    }

    private static void measures() {
        Check.due("50 no items", () -> Houses.empty().meanMark(), 0.0);
        Check.due("51 no items", () -> Houses.empty().fill(), 0.0f);
        Check.due("50 one item with the mark 0", () -> Houses.of(0, 0, 0).meanMark(), 0.0);
        Check.due("51 one item with the mark 0", () -> Houses.of(0, 0, 0).fill(), 0.01f);
        Check.due("50 a full row", () -> Houses.oneRow(4).meanMark(), 89.5);
        Check.due("51 a full row", () -> Houses.oneRow(4).fill(), 0.2f);
        Check.due("51 all rows full", () -> Houses.full().fill(), 1.0f);
        ToplistHouse third = Houses.of(0, 0, 99, 0, 1, 99, 1, 0, 98);
        Check.due("50 divided as doubles", third::meanMark, 296.0 / 3.0);
    }
}
