/** Equal values and equal marks: wherever the document says which of several is first, and where equal is enough. */
public final class EqualValuesTest {
    private static final String NONE_SUCH = "throws NoSuchElementException";
    private static final int NONE = ToplistHouse.NONE;

    public static void main(String[] args) {
        itemsOfTheSameMark();
        itemsThatMoveToTheSameMark();
        thingsOfTheSameValue();
        sameValueByOtherSums();
        answersOfTheSameValue();
        mergedItemsOfTheSameMark();
        comparisonsOfTheSameMark();
        quantilesOfTheSameMark();
        votesByTheSameMark();
        asManyRowsForBoth();
        firstOfSeveralLeastOrders();
        sameNumbersInTheWindow();
        pairsOfTheSameSum();
        holdsWithTheSameValue();
        Check.finish();
    }

    /** "items of the same mark by ascending things", in whatever order they came. */
    private static void itemsOfTheSameMark() {
        for (int mark : new int[] {0, 50, 99}) {
            ToplistHouse house = Houses.alike(mark);
            for (int place = 0; place < 20; place++) {
                int p = place;
                Check.due("11 all " + mark + ", place " + p, () -> house.thingAt(2, p), p);
                Check.due("12 all " + mark + ", place " + p, () -> house.markAt(2, p), mark);
                Check.due("13 all " + mark + ", thing " + p, () -> house.placeOf(2, p), p);
            }
        }
    }

    private static void itemsThatMoveToTheSameMark() {
        ToplistHouse house = Houses.of(1, 9, 30, 1, 4, 20, 1, 6, 10);
        house.put(1, 6, 30);
        Check.due("13 up to the same mark, a lesser thing", () -> house.placeOf(1, 6), 0);
        house.put(1, 4, 30);
        Check.due("13 up to the same mark, the least thing", () -> house.placeOf(1, 4), 0);
        Check.due("13 the next one", () -> house.placeOf(1, 6), 1);
        Check.due("13 the greatest thing", () -> house.placeOf(1, 9), 2);
        house.put(1, 12, 30);
        Check.due("13 a new item of the same mark", () -> house.placeOf(1, 12), 3);
        house.put(1, 4, 29);
        Check.due("13 down by one", () -> house.placeOf(1, 4), 3);
        house.drop(1, 6);
        house.put(1, 6, 30);
        Check.due("13 out and in again", () -> house.placeOf(1, 6), 0);
    }

    /** "things of the same value by ascending numbers", with each rule. */
    private static void thingsOfTheSameValue() {
        ToplistHouse house = Houses.alike(50);
        for (int rule = ToplistHouse.SUM; rule <= ToplistHouse.GREATEST; rule++) {
            house.setRule(rule);
            for (int thing = 0; thing < 20; thing++) {
                int t = thing;
                Check.due("16 all alike, rule " + rule + ", rank " + t, () -> house.ranked(t), t);
                Check.due("17 all alike, rule " + rule + ", thing " + t, () -> house.rankOf(t), t);
            }
        }
    }

    private static void sameValueByOtherSums() {
        // 60 = 2 * 30 = 20 + 40; thing 3 has one more, thing 1 one less.
        ToplistHouse house = Houses.of(0, 12, 30, 1, 8, 20, 2, 8, 40, 3, 15, 60, 4, 3, 61, 4, 1, 59);
        house.setWeight(0, 2);
        int[] things = {3, 8, 12, 15, 1};
        for (int rank = 0; rank < 5; rank++) {
            int r = rank;
            Check.due("16 the same by other sums, rank " + r, () -> house.ranked(r), things[r]);
            Check.due("17 the same by other sums, thing " + things[r], () -> house.rankOf(things[r]), r);
        }
    }

    /** The answer is in the order of the ranking; of things that were not read it has none. */
    private static void answersOfTheSameValue() {
        ToplistHouse house = Houses.alike(99);
        for (int k = 1; k <= 20; k++) {
            int number = k;
            Check.due("19 all alike, the limit itself is enough, k " + k, () -> house.stopDepth(number), number);
            Check.due("21 all alike, k " + k, () -> house.best(number, number - 1), number - 1);
            Check.due("25 all alike, bounds that are the same are enough, k " + k,
                    () -> house.plainDepth(number), number);
        }
        // The depth 1 has read 4 and 2, whose values are the limit itself.
        ToplistHouse both = Houses.of(0, 4, 50, 0, 8, 50, 1, 2, 50);
        both.setRule(ToplistHouse.GREATEST);
        Check.due("19 two of the same value", () -> both.stopDepth(2), 1);
        Check.due("21 the lesser thing, though its row comes later", () -> both.best(2, 0), 2);
        Check.due("21 the greater thing", () -> both.best(2, 1), 4);
        // The depth 1 has read 4 and 9, but the ranking is 4, 8 and 9.
        ToplistHouse unread = Houses.of(0, 4, 50, 0, 8, 50, 1, 9, 50);
        unread.setRule(ToplistHouse.GREATEST);
        Check.due("19 two of three of the same value", () -> unread.stopDepth(2), 1);
        Check.due("21 the one that was read", () -> unread.best(2, 1), 9);
        Check.due("16 the one that was not read", () -> unread.ranked(1), 8);
        Check.due("52 the same in values", unread::errors, 0);
        Check.due("21 with all three read", () -> unread.best(3, 1), 8);
    }

    /** "items of the same mark by ascending rows, and items of the same mark and row by ascending things". */
    private static void mergedItemsOfTheSameMark() {
        for (int mark : new int[] {0, 99}) {
            ToplistHouse house = Houses.alike(mark);
            for (int place = 0; place < 100; place++) {
                int p = place;
                Check.due("29 all " + mark + ", place " + p, () -> house.mergedThing(p), p % 20);
                Check.due("30 all " + mark + ", place " + p, () -> house.mergedRow(p), p / 20);
            }
            Check.due("52 all " + mark, house::errors, 0);
        }
        ToplistHouse house = Houses.of(1, 0, 50, 0, 19, 50, 0, 18, 50, 2, 1, 51, 1, 19, 49);
        int[] things = {1, 18, 19, 0, 19};
        int[] rows = {2, 0, 0, 1, 1};
        for (int place = 0; place < 5; place++) {
            int p = place;
            Check.due("29 rows ahead of things, " + p, () -> house.mergedThing(p), things[p]);
            Check.due("30 rows ahead of things, " + p, () -> house.mergedRow(p), rows[p]);
        }
    }

    /** Of items of the same mark that of the lesser row is taken, whichever row is named first. */
    private static void comparisonsOfTheSameMark() {
        ToplistHouse alike = Houses.alike(50);
        for (int row = 0; row < 5; row++) {
            for (int other = 0; other < 5; other++) {
                int r = row;
                int o = other;
                if (r != o) {
                    Check.due("31 all alike, " + r + " and " + o, () -> alike.comparisons(r, o), 20);
                }
            }
        }
        Check.due("32 all alike", alike::allComparisons, 20 + 20 + 40 + 80);
        ToplistHouse house = Houses.of(0, 1, 50, 0, 2, 50, 3, 1, 50, 3, 2, 50, 3, 3, 50);
        Check.due("31 the two of row 0", () -> house.comparisons(0, 3), 2);
        Check.due("31 the two of row 0, turned", () -> house.comparisons(3, 0), 2);
        Check.due("32 the two of row 0", house::allComparisons, 2);
        house.put(0, 2, 49);
        // 50 of row 0, then three of row 3.
        Check.due("31 one of row 0, then all of row 3", () -> house.comparisons(0, 3), 4);
        Check.due("31 the same, turned", () -> house.comparisons(3, 0), 4);
    }

    private static void quantilesOfTheSameMark() {
        ToplistHouse house = Houses.of(0, 0, 7, 1, 0, 7, 2, 0, 7, 3, 0, 6, 4, 0, 8);
        // 8 7 7 7 6: the places begin at 0, 250, 500, 750 and 1000.
        int[][] due = {{0, 8}, {249, 8}, {250, 7}, {251, 7}, {499, 7}, {500, 7}, {749, 7}, {750, 7}, {999, 7},
            {1000, 6}};
        for (int[] one : due) {
            Check.due("33 the same marks, " + one[0], () -> house.quantile(one[0]), one[1]);
        }
    }

    /** Of two items of the same mark that of the lesser thing is ahead, so the row prefers it. */
    private static void votesByTheSameMark() {
        ToplistHouse house = Houses.alike(30);
        Check.due("35 the lesser thing", () -> house.prefer(3, 4), 5);
        Check.due("35 the greater thing", () -> house.prefer(4, 3), 0);
        Check.due("35 itself", () -> house.prefer(4, 4), 0);
        Check.due("36 the least thing", house::winner, 0);
        Check.due("37 no ring", house::ring, NONE);
        Check.due("38 by ascending things", house::swaps, 0);
        for (int place = 0; place < 6; place++) {
            int p = place;
            Check.due("39 by ascending things, " + p, () -> house.orderAt(p), p);
        }
    }

    /** "if more rows prefer it to that one than the other way round": as many are not enough. */
    private static void asManyRowsForBoth() {
        ToplistHouse house = Houses.votes(new int[] {2, 5}, new int[] {5, 2});
        Check.due("36 one row each", house::winner, NONE_SUCH);
        house.put(2, 9, 50);
        Check.due("36 a row that prefers neither", house::winner, NONE_SUCH);
        house.put(2, 5, 40);
        Check.due("36 one row more, and ahead of 9", house::winner, 5);
        house.put(3, 9, 40);
        Check.due("35 two rows for 9", () -> house.prefer(9, 5), 2);
        Check.due("35 two rows for 5", () -> house.prefer(5, 9), 2);
        Check.due("36 even with one of the others", house::winner, NONE_SUCH);
        // 5 beats 2; 9 and 5 are even; 9 and 2 are even, too.
        Check.due("37 even ones are no part of a ring", house::ring, NONE);
    }

    /** "of several the first one by its candidates". */
    private static void firstOfSeveralLeastOrders() {
        hasOrder(Houses.votes(new int[] {1, 0}, new int[] {0, 1}), 1, 0, 1);
        // Each of the three things alone in a row: each order has 3 swaps.
        hasOrder(Houses.of(0, 7, 1, 1, 4, 1, 2, 2, 1), 3, 2, 4, 7);
        // 6 ahead of all in each row; the others turned in two rows.
        hasOrder(Houses.votes(new int[] {6, 1, 2, 3}, new int[] {6, 3, 2, 1}), 3, 6, 1, 2, 3);
        // 1 behind all in each row.
        hasOrder(Houses.votes(new int[] {2, 3, 6, 1}, new int[] {6, 3, 2, 1}), 3, 2, 3, 6, 1);
        // A ring of 3, 5 and 8 has three least orders: 3 5 8, 5 8 3 and 8 3 5.
        hasOrder(Houses.votes(new int[] {8, 3, 5}, new int[] {5, 8, 3}, new int[] {3, 5, 8}), 4, 3, 5, 8);
        // 0 1 2 turned in one row, 3 4 5 turned as well, and each of those ahead of each of these.
        hasOrder(Houses.votes(new int[] {2, 1, 0, 5, 4, 3}, new int[] {0, 1, 2, 3, 4, 5}), 6, 0, 1, 2, 3, 4, 5);
    }

    private static void hasOrder(ToplistHouse house, int swaps, int... things) {
        Check.due("38 of several", house::swaps, swaps);
        for (int place = 0; place < things.length; place++) {
            int p = place;
            Check.due("39 of several with " + swaps + " swaps, place " + p, () -> house.orderAt(p), things[p]);
        }
    }

    /** "1 for the next one (also if it is the same number)". */
    private static void sameNumbersInTheWindow() {
        ToplistHouse house = Houses.pushed(4, 9, 4, 9, 4);
        int[] numbers = {9, 9, 4, 4, 4};
        for (int rank = 0; rank < 5; rank++) {
            int r = rank;
            Check.due("41 the same numbers, " + r, () -> house.windowAt(r), numbers[r]);
        }
        Check.due("42 unlike ones", house::unlike, 2);
        Check.due("8 the oldest of the same", () -> house.push(4), 4);
        Check.due("42 still two", house::unlike, 2);
        Check.due("8 the next one", () -> house.push(4), 9);
        Check.due("8 and the next one", () -> house.push(4), 4);
        Check.due("42 still 9 and 4", house::unlike, 2);
        Check.due("8 the last 9", () -> house.push(4), 9);
        Check.due("42 all alike", house::unlike, 1);
        Check.due("41 all alike", () -> house.windowAt(4), 4);
    }

    /** "pairs of the same sum by the ascending place in the first row, then by the one in the second row". */
    private static void pairsOfTheSameSum() {
        ToplistHouse alike = Houses.alike(49);
        for (int rank = 0; rank < 400; rank++) {
            int r = rank;
            Check.due("46 all alike, " + r, () -> alike.pairSum(3, 1, r), 98);
            Check.due("47 all alike, first, " + r, () -> alike.pairPlace(3, 1, r, false), r / 20);
            Check.due("47 all alike, second, " + r, () -> alike.pairPlace(3, 1, r, true), r % 20);
            Check.due("47 one row with itself, first, " + r, () -> alike.pairPlace(2, 2, r, false), r / 20);
            Check.due("47 one row with itself, second, " + r, () -> alike.pairPlace(2, 2, r, true), r % 20);
        }
        // 99 98 .. 80 with itself: the sum 198 - s comes by the places 0 and s, 1 and s - 1, and so on.
        ToplistHouse steps = Houses.oneRow(4);
        int rank = 0;
        for (int s = 0; s < 20; s++) {
            for (int first = 0; first <= s; first++) {
                int[] due = {198 - s, first, s - first};
                int r = rank;
                Check.due("46 steps, " + r, () -> steps.pairSum(4, 4, r), due[0]);
                Check.due("47 steps, first, " + r, () -> steps.pairPlace(4, 4, r, false), due[1]);
                Check.due("47 steps, second, " + r, () -> steps.pairPlace(4, 4, r, true), due[2]);
                rank++;
            }
        }
    }

    private static void holdsWithTheSameValue() {
        ToplistHouse house = Houses.of(0, 5, 50, 0, 3, 40, 0, 8, 40);
        Check.due("27 the same value as a lesser thing", () -> house.holds(3, 1, 8, 0), true);
        Check.due("27 up to the value of a lesser thing", () -> house.holds(3, 1, 8, 10), false);
        Check.due("27 up to the value of the first, a greater thing", () -> house.holds(1, 1, 8, 10), true);
        Check.due("27 up to the value of the first, a lesser thing", () -> house.holds(1, 1, 3, 10), false);
        Check.due("27 a new thing of the same value, greater", () -> house.holds(3, 1, 9, 40), true);
        Check.due("27 a new thing of the same value, between", () -> house.holds(3, 1, 4, 40), false);
        Check.due("27 the same mark again", () -> house.holds(20, 0, 8, 40), true);
    }
}
