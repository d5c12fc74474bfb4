/** Promises 28 to 33: merging. */
public final class MergingTest {
    private static final String INDEX = "IndexOutOfBoundsException";
    private static final String ARGUMENT = "IllegalArgumentException";
    private static final int[] FAR = {Integer.MIN_VALUE, -1, Integer.MAX_VALUE};

    public static void main(String[] args) {
        mergedRow();
        mergedRowWithTies();
        comparisons();
        allComparisons();
        quantile();
        emptyAndFull();
        wrongArguments();
        Check.finish();
    }

    private static void mergedRow() {
        ToplistHouse house = new ToplistHouse();
        int[] things = {2, 0, 1, 1, 2, 2, 0, 4, 0, 3};
        int[] rows = {2, 0, 1, 0, 1, 0, 2, 2, 1, 0};
        Check.due("30 the first call of a house", () -> new ToplistHouse().mergedRow(0), 2);
        Check.due("28 count", house::mergedCount, 10);
        for (int place = 0; place < 10; place++) {
            int p = place;
            Check.due("29 place " + p, () -> house.mergedThing(p), things[p]);
            Check.due("30 place " + p, () -> house.mergedRow(p), rows[p]);
        }
        Check.refused("29 place 10", house, () -> house.mergedThing(10), INDEX);
        Check.refused("30 place 10", house, () -> house.mergedRow(10), INDEX);
        house.setWeight(1, 5);
        house.setWeight(2, 0);
        Check.due("29 weights do not matter", () -> house.mergedThing(0), 2);
        Check.due("30 weights do not matter", () -> house.mergedRow(0), 2);
        house.drop(2, 2);
        Check.due("28 one less", house::mergedCount, 9);
    }

    private static void mergedRowWithTies() {
        ToplistHouse house = Houses.of(4, 1, 50, 1, 9, 50, 1, 3, 50, 0, 19, 50, 3, 0, 51, 2, 5, 0, 0, 6, 0);
        int[] things = {0, 19, 3, 9, 1, 6, 5};
        int[] rows = {3, 0, 1, 1, 4, 0, 2};
        for (int place = 0; place < 7; place++) {
            int p = place;
            Check.due("29 same marks, place " + p, () -> house.mergedThing(p), things[p]);
            Check.due("30 same marks, place " + p, () -> house.mergedRow(p), rows[p]);
        }
    }

    private static void comparisons() {
        ToplistHouse house = new ToplistHouse();
        // Rows 0 (90 80 70 10) and 1 (85 75 20): 90 85 80 75 70 20, then row 1 is at its end.
        Check.due("31 rows 0 and 1", () -> house.comparisons(0, 1), 6);
        Check.due("31 rows 1 and 0", () -> house.comparisons(1, 0), 6);
        // Rows 1 (85 75 20) and 2 (95 60 50): 95 85 75 60 50.
        Check.due("31 rows 1 and 2", () -> house.comparisons(1, 2), 5);
        Check.due("31 rows 0 and 2", () -> house.comparisons(0, 2), 6);
        Check.due("31 an empty row", () -> house.comparisons(0, 3), 0);
        Check.due("31 an empty row first", () -> house.comparisons(4, 2), 0);
        Check.due("31 both empty", () -> house.comparisons(3, 4), 0);
        // The same mark: row 3 goes ahead of row 4, and is at its end by it.
        ToplistHouse same = Houses.of(4, 0, 50, 3, 1, 50, 4, 2, 50);
        Check.due("31 same marks", () -> same.comparisons(4, 3), 1);
        Check.due("31 same marks, turned", () -> same.comparisons(3, 4), 1);
        ToplistHouse later = Houses.of(3, 0, 50, 4, 1, 50, 3, 2, 50);
        Check.due("31 same marks, the first row longer", () -> later.comparisons(3, 4), 2);
        Check.refused("31 the same row", house, () -> house.comparisons(2, 2), ARGUMENT);
        Check.refused("31 the same empty row", house, () -> house.comparisons(4, 4), ARGUMENT);
        Check.refused("31 the same row that is not there", house, () -> house.comparisons(5, 5), INDEX);
    }

    private static void allComparisons() {
        ToplistHouse house = new ToplistHouse();
        // 6 for rows 0 and 1, none for rows 2 and 3; these (90 85 80 75 70 20 10) with row 2 (95 60 50): 8.
        Check.due("32 new house", house::allComparisons, 14);
        // Row 4 with all the others (95 90 85 ...): one, as its item is the first.
        house.put(4, 0, 99);
        Check.due("32 row 4 ahead", house::allComparisons, 15);
        house.put(4, 0, 0);
        Check.due("32 row 4 behind", house::allComparisons, 24);
        house.put(3, 0, 55);
        // Rows 2 and 3: 95 60 55 = 3; 90.. with 95 60 55 50: 95 90 85 80 75 70 60 55 50 = 9; row 4 behind 11.
        Check.due("32 all rows", house::allComparisons, 29);
        Check.due("32 one row", () -> Houses.of(2, 1, 5, 2, 2, 6).allComparisons(), 0);
    }

    private static void quantile() {
        ToplistHouse house = new ToplistHouse();
        int[] marks = {95, 90, 85, 80, 75, 70, 60, 50, 20, 10};
        Check.due("33 the greatest", () -> house.quantile(0), 95);
        Check.due("33 the least", () -> house.quantile(1000), 10);
        Check.due("33 rounded down", () -> house.quantile(999), 20);
        Check.due("33 the middle one", () -> house.quantile(500), 75);
        for (int thousandths = 0; thousandths <= 1000; thousandths += 37) {
            int t = thousandths;
            Check.due("33 " + t, () -> house.quantile(t), marks[9 * t / 1000]);
        }
        Check.due("33 just below a place", () -> house.quantile(111), 95);
        Check.due("33 just above a place", () -> house.quantile(112), 90);
        Check.due("33 a single item", () -> Houses.of(4, 0, 7).quantile(1000), 7);
        for (int bad : new int[] {-1, 1001, Integer.MIN_VALUE, Integer.MAX_VALUE}) {
            Check.refused("33 " + bad, house, () -> house.quantile(bad), ARGUMENT);
        }
        ToplistHouse empty = Houses.empty();
        Check.refused("33 no items", empty, () -> empty.quantile(0), "NoSuchElementException");
        Check.refused("33 no items, and out of range", empty, () -> empty.quantile(1001), ARGUMENT);
    }

    private static void emptyAndFull() {
        ToplistHouse empty = Houses.empty();
        Check.due("28 empty", empty::mergedCount, 0);
        Check.due("32 empty", empty::allComparisons, 0);
        Check.refused("29 empty", empty, () -> empty.mergedThing(0), INDEX);
        Check.refused("30 empty", empty, () -> empty.mergedRow(0), INDEX);
        ToplistHouse full = Houses.full();
        Check.due("28 full", full::mergedCount, 100);
        Check.due("29 full, first", () -> full.mergedThing(0), 19);
        Check.due("30 full, first", () -> full.mergedRow(0), 4);
        // 76 is the mark of thing 19 in row 0 and of thing 18 in row 4.
        Check.due("30 full, place 4", () -> full.mergedRow(4), 0);
        Check.due("30 full, place 5", () -> full.mergedRow(5), 4);
        Check.due("29 full, last", () -> full.mergedThing(99), 0);
        Check.due("30 full, last", () -> full.mergedRow(99), 0);
        Check.due("29 full, place 100", () -> full.mergedThing(100), "throws " + INDEX);
        Check.due("30 full, place 100", () -> full.mergedRow(100), "throws " + INDEX);
        Check.due("31 full", () -> full.comparisons(0, 4), 39);
    }

    private static void wrongArguments() {
        ToplistHouse house = new ToplistHouse();
        for (int bad : FAR) {
            Check.refused("29 place " + bad, house, () -> house.mergedThing(bad), INDEX);
            Check.refused("30 place " + bad, house, () -> house.mergedRow(bad), INDEX);
            Check.refused("31 row " + bad, house, () -> house.comparisons(bad, 0), INDEX);
            Check.refused("31 other " + bad, house, () -> house.comparisons(0, bad), INDEX);
        }
        Check.refused("31 row 5", house, () -> house.comparisons(5, 0), INDEX);
        Check.refused("31 other 5", house, () -> house.comparisons(0, 5), INDEX);
    }
}
