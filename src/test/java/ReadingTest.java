/** Promises 18 to 27: reading with asking and without. */
public final class ReadingTest {
    private static final String INDEX = "IndexOutOfBoundsException";
    private static final String ARGUMENT = "IllegalArgumentException";
    private static final String NONE_SUCH = "NoSuchElementException";
    private static final int[] BAD_K = {0, 21, -1, Integer.MIN_VALUE, Integer.MAX_VALUE};
    private static final int[] BAD_INDEX = {-1, 20, Integer.MIN_VALUE, Integer.MAX_VALUE};

    public static void main(String[] args) {
        limit();
        stopDepth();
        stopAtTheLimitItself();
        cost();
        best();
        bestLeavesOutWhatWasNotRead();
        refute();
        refuteWithAllThingsRead();
        lower();
        upper();
        plainDepth();
        plainDepthWithSameLowerBounds();
        plainCost();
        holds();
        withoutItems();
        Check.finish();
    }

    private static void limit() {
        ToplistHouse house = new ToplistHouse();
        int[] sums = {270, 215, 140, 10, 0, 0};
        for (int depth = 1; depth <= 6; depth++) {
            int d = depth;
            Check.due("18 SUM at " + d, () -> house.limit(d), sums[d - 1]);
        }
        Check.due("18 the deepest", () -> house.limit(20), 0);
        house.setWeight(1, 3);
        Check.due("18 SUM with a weight", () -> house.limit(2), 80 + 225 + 60);
        house.setRule(ToplistHouse.GREATEST);
        Check.due("18 GREATEST", () -> house.limit(3), 70);
        Check.due("18 GREATEST in a row with a weight", () -> house.limit(1), 255);
        house.setRule(ToplistHouse.LEAST);
        Check.due("18 LEAST with empty rows", () -> house.limit(1), 0);
        house.setWeight(3, 0);
        house.setWeight(4, 0);
        Check.due("18 LEAST", () -> house.limit(1), 90);
        house.setWeight(0, 0);
        Check.due("18 LEAST without a row", () -> house.limit(1), 95);
        Check.due("18 LEAST deeper", () -> house.limit(3), 50);
        for (int bad : BAD_K) {
            Check.refused("18 depth " + bad, house, () -> house.limit(bad), ARGUMENT);
        }
        Check.due("18 full, the deepest", () -> Houses.full().limit(20), 10);
        Check.due("18 full, first", () -> Houses.full().limit(1), 390);
    }

    private static void stopDepth() {
        ToplistHouse house = new ToplistHouse();
        int[] stops = {2, 3, 3, 4, 4, 4};
        for (int k = 1; k <= 6; k++) {
            int number = k;
            Check.due("19 SUM, k " + k, () -> house.stopDepth(number), stops[k - 1]);
        }
        Check.due("19 k 20", () -> house.stopDepth(20), 4);
        house.setRule(ToplistHouse.GREATEST);
        // Depth 1 has read 0, 1, 2 (90, 85, 95) with the limit 95; depth 2 has the limit 80.
        Check.due("19 GREATEST, k 1", () -> house.stopDepth(1), 1);
        Check.due("19 GREATEST, k 2", () -> house.stopDepth(2), 2);
        Check.due("19 GREATEST, k 3", () -> house.stopDepth(3), 2);
        Check.due("19 GREATEST, k 4", () -> house.stopDepth(4), 4);
        house.setRule(ToplistHouse.LEAST);
        Check.due("19 LEAST with a limit of 0", () -> house.stopDepth(3), 1);
        Check.due("19 LEAST, too few read", () -> house.stopDepth(4), 3);
        Check.due("19 LEAST, 5 things only at the end", () -> house.stopDepth(5), 4);
        for (int bad : BAD_K) {
            Check.refused("19 k " + bad, house, () -> house.stopDepth(bad), ARGUMENT);
        }
        Check.due("19 full", () -> Houses.full().stopDepth(1), 1);
        Check.due("19 full, k 20", () -> Houses.full().stopDepth(20), 20);
    }

    private static void stopAtTheLimitItself() {
        // Depth 1: thing 0 has 50 + 50, and the limit is just as much.
        ToplistHouse house = Houses.of(0, 0, 50, 1, 0, 50, 0, 1, 49, 1, 1, 49);
        Check.due("19 not less than the limit", () -> house.stopDepth(1), 1);
        house.put(2, 2, 1);
        Check.due("19 less than the limit", () -> house.stopDepth(1), 2);
    }

    private static void cost() {
        ToplistHouse house = new ToplistHouse();
        int[] costs = {18, 25, 25, 30, 30};
        for (int k = 1; k <= 5; k++) {
            int number = k;
            Check.due("20 k " + k, () -> house.cost(number), costs[k - 1]);
        }
        house.setCosts(10, 3);
        Check.due("20 reads and asks", () -> house.cost(1), 60 + 36);
        house.setCosts(0, 99);
        Check.due("20 asks alone", () -> house.cost(20), 20 * 99);
        house.setCosts(99, 0);
        Check.due("20 reads alone", () -> house.cost(2), 9 * 99);
        ToplistHouse full = Houses.full();
        full.setCosts(99, 99);
        Check.due("20 the dearest", () -> full.cost(20), 180 * 99);
        for (int bad : BAD_K) {
            Check.refused("20 k " + bad, house, () -> house.cost(bad), ARGUMENT);
        }
    }

    private static void best() {
        ToplistHouse house = new ToplistHouse();
        int[] things = {2, 0, 1, 4, 3};
        for (int k = 1; k <= 6; k++) {
            int number = k;
            for (int rank = 0; rank < Math.min(k, 5); rank++) {
                int r = rank;
                Check.due("21 k " + k + ", rank " + r, () -> house.best(number, r), things[r]);
            }
            Check.refused("21 k " + k + ", no such rank", house, () -> house.best(number, Math.min(number, 5)), INDEX);
        }
        for (int bad : BAD_K) {
            Check.refused("21 k " + bad, house, () -> house.best(bad, 0), ARGUMENT);
            Check.refused("21 k " + bad + " and rank", house, () -> house.best(bad, -1), ARGUMENT);
        }
        for (int bad : BAD_INDEX) {
            Check.refused("21 rank " + bad, house, () -> house.best(20, bad), INDEX);
        }
        Check.due("21 full", () -> Houses.full().best(20, 19), 0);
    }

    private static void bestLeavesOutWhatWasNotRead() {
        // Things 4, 9 and 2 have the value 30 each. Depth 1 has read 4 and 9 alone, with the limit 30.
        ToplistHouse house = Houses.of(0, 4, 30, 0, 2, 20, 1, 9, 30, 2, 2, 10);
        house.setWeight(2, 0);
        house.setRule(ToplistHouse.GREATEST);
        house.put(0, 5, 30);
        house.put(1, 1, 30);
        // Row 0: 4, 5, 2; row 1: 1, 9; row 2: 2. At the depth 1: 4, 1 and 2; not 5 and 9.
        Check.due("21 stops at once", () -> house.stopDepth(2), 1);
        Check.due("21 the ranking's first", () -> house.best(2, 0), 1);
        Check.due("21 the ranking's second", () -> house.best(2, 1), 4);
        house.put(1, 1, 29);
        // Row 1: 9, 1. Now the ranking is 4, 5, 9, 1, 2, but the depth 1 has read 4, 9 and 2.
        Check.due("21 still at once", () -> house.stopDepth(2), 1);
        Check.due("21 of the ranking 5 is second", () -> house.ranked(1), 5);
        Check.due("21 of the answer 9 is second", () -> house.best(2, 1), 9);
        Check.due("52 but with the same value", house::errors, 0);
    }

    private static void refute() {
        ToplistHouse house = new ToplistHouse();
        Check.due("22 nothing was read", () -> house.refute(1, 0), 0);
        Check.due("22 depth 1", () -> house.refute(1, 1), 3);
        Check.due("22 k 4, depth 2", () -> house.refute(4, 2), 3);
        Check.due("22 k 4, depth 3", () -> house.refute(4, 3), 3);
        house.drop(0, 0);
        house.drop(1, 0);
        house.drop(2, 0);
        Check.due("22 a thing without items", () -> house.refute(1, 1), 0);
        Check.refused("22 at the stop", house, () -> house.refute(5, 3), NONE_SUCH);
        Check.refused("22 behind the stop", house, () -> house.refute(1, 20), NONE_SUCH);
        for (int bad : BAD_K) {
            Check.refused("22 k " + bad, house, () -> house.refute(bad, 0), ARGUMENT);
            Check.refused("22 k " + bad + " behind the stop", house, () -> house.refute(bad, 20), ARGUMENT);
        }
        for (int bad : new int[] {-1, 21, Integer.MIN_VALUE, Integer.MAX_VALUE}) {
            Check.refused("22 depth " + bad, house, () -> house.refute(1, bad), ARGUMENT);
        }
    }

    private static void refuteWithAllThingsRead() {
        // Things 0 to 9 are the first in row 0, things 10 to 19 in row 1: at the depth 10 all were read.
        ToplistHouse house = Houses.empty();
        for (int thing = 0; thing < 20; thing++) {
            house.put(0, thing, thing < 10 ? 90 - thing : 50 - thing);
            house.put(1, thing, thing < 10 ? 50 - thing : 90 - thing);
        }
        // The least value is 102; the limits at the depths 10 and 11 are 152 and 90.
        Check.due("22 reads on behind the depth 10", () -> house.stopDepth(20), 11);
        Check.due("22 thing 9 has not been read", () -> house.refute(20, 9), 9);
        Check.refused("22 all 20 were read", house, () -> house.refute(20, 10), NONE_SUCH);
        Check.due("22 nothing was read, k 20", () -> house.refute(20, 0), 0);
    }

    private static void lower() {
        ToplistHouse house = new ToplistHouse();
        Check.due("23 read in no row", () -> house.lower(3, 3), 0);
        Check.due("23 read in one row", () -> house.lower(0, 1), 90);
        Check.due("23 read in two rows", () -> house.lower(0, 2), 150);
        Check.due("23 read in all rows", () -> house.lower(0, 3), 170);
        Check.due("23 unknown", () -> house.lower(19, 20), 0);
        house.setWeight(0, 5);
        Check.due("23 with a weight", () -> house.lower(0, 2), 510);
        house.setRule(ToplistHouse.GREATEST);
        Check.due("23 GREATEST", () -> house.lower(2, 1), 95);
        Check.due("23 GREATEST, deeper", () -> house.lower(2, 3), 350);
        house.setRule(ToplistHouse.LEAST);
        house.setWeight(3, 0);
        house.setWeight(4, 0);
        Check.due("23 LEAST, not read everywhere", () -> house.lower(0, 2), 0);
        Check.due("23 LEAST, read everywhere", () -> house.lower(0, 3), 20);
        for (int bad : BAD_INDEX) {
            Check.refused("23 thing " + bad, house, () -> house.lower(bad, 1), INDEX);
            Check.refused("23 thing " + bad + " and depth", house, () -> house.lower(bad, 0), INDEX);
        }
        for (int bad : BAD_K) {
            Check.refused("23 depth " + bad, house, () -> house.lower(0, bad), ARGUMENT);
        }
    }

    private static void upper() {
        ToplistHouse house = new ToplistHouse();
        Check.due("24 read in no row", () -> house.upper(3, 3), 140);
        Check.due("24 an unknown thing", () -> house.upper(19, 2), 215);
        Check.due("24 read in one row", () -> house.upper(0, 1), 90 + 85 + 95);
        Check.due("24 read in two rows", () -> house.upper(0, 2), 90 + 75 + 60);
        Check.due("24 a row at its end is 0", () -> house.upper(4, 4), 50 + 10);
        Check.due("24 all read", () -> house.upper(4, 5), 50);
        Check.due("24 the deepest", () -> house.upper(19, 20), 0);
        house.setWeight(1, 2);
        Check.due("24 with a weight", () -> house.upper(0, 2), 90 + 150 + 60);
        house.setRule(ToplistHouse.GREATEST);
        Check.due("24 GREATEST", () -> house.upper(0, 2), 150);
        house.setRule(ToplistHouse.LEAST);
        Check.due("24 LEAST with empty rows", () -> house.upper(0, 1), 0);
        house.setWeight(3, 0);
        house.setWeight(4, 0);
        Check.due("24 LEAST", () -> house.upper(0, 2), 60);
        Check.due("24 LEAST, not read", () -> house.upper(3, 1), 90);
        for (int bad : BAD_INDEX) {
            Check.refused("24 thing " + bad, house, () -> house.upper(bad, 1), INDEX);
            Check.refused("24 thing " + bad + " and depth", house, () -> house.upper(bad, 21), INDEX);
        }
        for (int bad : BAD_K) {
            Check.refused("24 depth " + bad, house, () -> house.upper(0, bad), ARGUMENT);
        }
    }

    private static void plainDepth() {
        ToplistHouse house = new ToplistHouse();
        // At the depth 3 the lower bounds are 240, 170, 165, 50, and the upper ones just so but for thing 1 (215)
        // and thing 4 (195); the limit is 140. So k = 2 is not settled there, though k = 3 is.
        int[] stops = {3, 4, 3, 4, 4};
        for (int k = 1; k <= 5; k++) {
            int number = k;
            Check.due("25 k " + k, () -> house.plainDepth(number), stops[k - 1]);
        }
        Check.due("25 k 20", () -> house.plainDepth(20), 4);
        Check.due("25 full, k 20", () -> Houses.full().plainDepth(20), 20);
        Check.due("25 full, k 1", () -> Houses.full().plainDepth(1), 1);
        ToplistHouse one = Houses.of(0, 0, 50, 0, 1, 40);
        Check.due("25 settled at the limit itself", () -> one.plainDepth(1), 1);
        one.put(1, 2, 1);
        Check.due("25 less than the limit by 1", () -> one.plainDepth(1), 2);
        for (int bad : BAD_K) {
            Check.refused("25 k " + bad, house, () -> house.plainDepth(bad), ARGUMENT);
        }
    }

    private static void plainDepthWithSameLowerBounds() {
        // GREATEST, depth 1: things 0 and 1 have the lower bound 80 each; all upper bounds are 80, too.
        ToplistHouse house = Houses.of(0, 0, 80, 1, 1, 80, 0, 2, 10, 1, 3, 10);
        house.setRule(ToplistHouse.GREATEST);
        Check.due("25 whichever of both", () -> house.plainDepth(1), 1);
        Check.due("25 both", () -> house.plainDepth(2), 1);
        Check.due("25 a third one", () -> house.plainDepth(3), 2);
        // SUM, depth 2: 9 has the lower bound 60 and the upper bound 61, as row 1 was not read to its place 2;
        // 0 has the lower bound 60 and the upper bound 60, as it has an item in both rows.
        ToplistHouse same = Houses.of(0, 9, 60, 0, 0, 40, 0, 5, 1, 1, 0, 20, 1, 1, 1, 1, 2, 1);
        Check.due("25 the one with the greater upper bound must be among them", () -> same.plainDepth(1), 2);
        // The same with the things 0 and 9 exchanged.
        ToplistHouse turned = Houses.of(0, 0, 60, 0, 9, 40, 0, 5, 1, 1, 9, 20, 1, 1, 1, 1, 2, 1);
        Check.due("25 also if it is the lesser thing", () -> turned.plainDepth(1), 2);
        Check.due("25 lower bound of 9", () -> same.lower(9, 2), 60);
        Check.due("25 upper bound of 9", () -> same.upper(9, 2), 61);
        Check.due("25 lower bound of 0", () -> same.lower(0, 2), 60);
        Check.due("25 upper bound of 0", () -> same.upper(0, 2), 60);
    }

    private static void plainCost() {
        ToplistHouse house = new ToplistHouse();
        Check.due("26 k 1", () -> house.plainCost(1), 9);
        Check.due("26 k 2", () -> house.plainCost(2), 10);
        house.setCosts(7, 99);
        Check.due("26 reads alone", () -> house.plainCost(1), 63);
        house.setCosts(0, 99);
        Check.due("26 for nothing", () -> house.plainCost(1), 0);
        ToplistHouse full = Houses.full();
        full.setCosts(99, 1);
        Check.due("26 the dearest", () -> full.plainCost(20), 9900);
        for (int bad : BAD_K) {
            Check.refused("26 k " + bad, house, () -> house.plainCost(bad), ARGUMENT);
        }
    }

    private static void holds() {
        ToplistHouse house = new ToplistHouse();
        Check.due("27 a new item ahead", () -> house.holds(1, 3, 0, 71), false);
        Check.due("27 a new item of the same value, but a lesser thing", () -> house.holds(1, 3, 0, 70), false);
        Check.due("27 a new item behind", () -> house.holds(1, 3, 0, 69), true);
        Check.due("27 the same value, but a greater thing", () -> house.holds(2, 3, 1, 5), true);
        Check.due("27 another order of the first two alone", () -> house.holds(3, 3, 1, 6), false);
        Check.due("27 another mark of an item, less", () -> house.holds(2, 0, 0, 0), false);
        Check.due("27 the same mark", () -> house.holds(20, 0, 0, 90), true);
        Check.due("27 one more known thing", () -> house.holds(6, 4, 5, 0), false);
        Check.due("27 one more known thing behind k", () -> house.holds(5, 4, 5, 0), true);
        house.setWeight(3, 0);
        Check.due("27 without a weight", () -> house.holds(20, 3, 3, 99), true);
        Check.due("27 without a weight, one more known", () -> house.holds(20, 3, 19, 99), false);
        String before = Look.at(house);
        house.holds(20, 0, 19, 99);
        Check.due("27 changes nothing", () -> Look.at(house), before);
        for (int bad : BAD_INDEX) {
            Check.refused("27 thing " + bad, house, () -> house.holds(1, 0, bad, 0), INDEX);
            Check.refused("27 row " + bad, house, () -> house.holds(1, bad, 0, 0), INDEX);
            Check.refused("27 row, k and mark", house, () -> house.holds(0, bad, 0, -1), INDEX);
            Check.refused("27 thing, k and mark", house, () -> house.holds(21, 0, bad, 100), INDEX);
        }
        Check.refused("27 row 5", house, () -> house.holds(1, 5, 0, 0), INDEX);
        for (int bad : BAD_K) {
            Check.refused("27 k " + bad, house, () -> house.holds(bad, 0, 0, 0), ARGUMENT);
        }
        for (int bad : new int[] {-1, 100, Integer.MIN_VALUE, Integer.MAX_VALUE}) {
            Check.refused("27 mark " + bad, house, () -> house.holds(1, 0, 0, bad), ARGUMENT);
        }
    }

    private static void withoutItems() {
        ToplistHouse house = Houses.empty();
        Check.due("18 empty", () -> house.limit(1), 0);
        Check.due("19 empty", () -> house.stopDepth(1), 0);
        Check.due("20 empty", () -> house.cost(20), 0);
        Check.refused("21 empty", house, () -> house.best(1, 0), INDEX);
        Check.refused("22 empty", house, () -> house.refute(1, 0), NONE_SUCH);
        Check.due("23 empty", () -> house.lower(0, 1), 0);
        Check.due("24 empty", () -> house.upper(0, 1), 0);
        Check.due("25 empty", () -> house.plainDepth(1), 0);
        Check.due("26 empty", () -> house.plainCost(20), 0);
        Check.due("27 empty", () -> house.holds(1, 0, 0, 0), false);
    }
}
