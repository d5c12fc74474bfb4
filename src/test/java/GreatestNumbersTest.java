/** Where sums and products come to their greatest, and arguments by which a product or a sum would wrap around. */
public final class GreatestNumbersTest {
    private static final String INDEX = "throws IndexOutOfBoundsException";
    private static final String ARGUMENT = "throws IllegalArgumentException";

    public static void main(String[] args) {
        weightedMarks();
        greatestSums();
        leastSums();
        dearestReading();
        costsInOneNumber();
        mostSwaps();
        longestRunOfNumbers();
        highestBound();
        argumentsThatWouldWrap();
        Check.finish();
    }

    /** "the weight times its mark", from 0 times 0 to 5 times 99. */
    private static void weightedMarks() {
        for (int weight = 0; weight <= 5; weight++) {
            for (int mark : new int[] {0, 1, 98, 99}) {
                ToplistHouse house = Houses.of(4, 19, mark);
                house.setWeight(4, weight);
                int due = weight * mark;
                String what = weight + " times " + mark;
                Check.due("14 " + what, () -> house.value(19), due);
                Check.due("18 " + what, () -> house.limit(1), due);
                Check.due("23 " + what, () -> house.lower(19, 1), due);
                Check.due("24 " + what, () -> house.upper(19, 1), due);
                Check.due("24 " + what + ", not read", () -> house.upper(0, 1), due);
            }
        }
    }

    private static ToplistHouse greatest() {
        ToplistHouse house = Houses.alike(99);
        for (int row = 0; row < 5; row++) {
            house.setWeight(row, 5);
        }
        return house;
    }

    /** All 100 items with the mark 99 and the weight 5. */
    private static void greatestSums() {
        ToplistHouse house = greatest();
        int[] due = {2475, 495, 495};
        for (int rule = ToplistHouse.SUM; rule <= ToplistHouse.GREATEST; rule++) {
            house.setRule(rule);
            int most = due[rule];
            for (int thing = 0; thing < 20; thing++) {
                int t = thing;
                String what = "rule " + rule + ", thing or depth " + t;
                Check.due("14 " + what, () -> house.value(t), most);
                Check.due("18 " + what, () -> house.limit(t + 1), most);
                Check.due("23 read, " + what, () -> house.lower(t, t + 1), most);
                Check.due("24 read, " + what, () -> house.upper(t, t + 1), most);
                Check.due("24 not read, " + what, () -> house.upper(19, t + 1), most);
                Check.due("19 " + what, () -> house.stopDepth(t + 1), t + 1);
                Check.due("25 " + what, () -> house.plainDepth(t + 1), t + 1);
            }
            Check.due("23 not read, rule " + rule, () -> house.lower(19, 19), 0);
            Check.due("52 rule " + rule, house::errors, 0);
        }
        Check.due("46 the greatest sum", () -> house.pairSum(0, 4, 0), 198);
        Check.due("46 all pairs the same", () -> house.pairSum(0, 4, 399), 198);
        Check.due("33 all marks the same", () -> house.quantile(0) + house.quantile(1000), 198);
        Check.due("50 all marks the same", house::meanMark, 99.0);
    }

    /** All 100 items with the mark 0. */
    private static void leastSums() {
        ToplistHouse house = Houses.alike(0);
        Check.due("15 items of the mark 0 are items", house::knownCount, 20);
        Check.due("28 items of the mark 0 are items", house::mergedCount, 100);
        Check.due("46 the least sum", () -> house.pairSum(4, 0, 0), 0);
        Check.due("46 the last pair", () -> house.pairSum(4, 0, 399), 0);
        Check.due("47 the last pair", () -> house.pairPlace(4, 0, 399, false), 19);
        Check.due("47 the last pair, second", () -> house.pairPlace(4, 0, 399, true), 19);
        Check.due("46 behind the last pair", () -> house.pairSum(4, 0, 400), INDEX);
        Check.due("50 the least mean", house::meanMark, 0.0);
        Check.due("51 full", house::fill, 1.0f);
        for (int k = 1; k <= 20; k++) {
            int number = k;
            Check.due("19 k " + k, () -> house.stopDepth(number), number);
            Check.due("18 depth " + k, () -> house.limit(number), 0);
        }
    }

    private static void dearestReading() {
        ToplistHouse house = greatest();
        house.setCosts(99, 99);
        Check.due("20 all items and things", () -> house.cost(20), 100 * 99 + 80 * 99);
        Check.due("26 all items", () -> house.plainCost(20), 100 * 99);
        Check.due("20 one thing", () -> house.cost(1), 5 * 99 + 4 * 99);
        Check.due("26 one thing", () -> house.plainCost(1), 5 * 99);
        house.setCosts(0, 0);
        Check.due("20 for nothing", () -> house.cost(20), 0);
        Check.due("26 for nothing", () -> house.plainCost(20), 0);
    }

    /** "100 times the cost of a read before, plus that of an ask before". */
    private static void costsInOneNumber() {
        ToplistHouse house = new ToplistHouse();
        int[][] costs = {{99, 99}, {0, 99}, {99, 0}, {1, 0}, {0, 1}, {0, 0}, {98, 1}};
        int before = 101;
        for (int[] cost : costs) {
            int due = before;
            Check.due("6 ahead of " + cost[0] + " and " + cost[1], () -> house.setCosts(cost[0], cost[1]), due);
            before = 100 * cost[0] + cost[1];
        }
    }

    private static void mostSwaps() {
        int[] up = {0, 1, 2, 3, 4, 5};
        int[] down = {5, 4, 3, 2, 1, 0};
        ToplistHouse house = Houses.votes(up, up, down, down, down);
        Check.due("38 two of five rows turned, 15 pairs", house::swaps, 30);
        for (int place = 0; place < 6; place++) {
            int p = place;
            Check.due("39 as three of five rows, place " + p, () -> house.orderAt(p), 5 - p);
        }
        Check.due("35 three rows", () -> house.prefer(5, 0), 3);
        Check.due("36 by three rows", house::winner, 5);
        Check.due("38 two of four rows turned", () -> Houses.votes(up, down, up, down).swaps(), 30);
        Check.due("39 of all orders the first", () -> Houses.votes(up, down, up, down).orderAt(5), 5);
        Check.due("38 one of five rows turned", () -> Houses.votes(up, up, down, up, up).swaps(), 15);
        Check.due("35 all rows", () -> Houses.votes(up, up, up, up, up).prefer(0, 5), 5);
    }

    /** An object is used for at most 512 calls. */
    private static void longestRunOfNumbers() {
        ToplistHouse house = new ToplistHouse();
        for (int call = 0; call < 508; call++) {
            int due = call < 5 ? ToplistHouse.NONE : 99;
            Check.due("8 call " + call, () -> house.push(99), due);
        }
        Check.due("44 508 times", () -> house.came(99), 508);
        Check.due("43 508 times", () -> house.counted(99), 508);
        Check.due("45 never", house::bound, 0);
        Check.due("7 508 numbers", () -> house.setWindow(10, 4), 508);
    }

    private static void highestBound() {
        ToplistHouse house = new ToplistHouse();
        house.setWindow(1, 1);
        for (int call = 0; call < 500; call++) {
            house.push(call % 2);
        }
        Check.due("45 each second time", house::bound, 250);
        Check.due("43 none is left", () -> house.counted(0) + house.counted(1), 0);
        Check.due("44 each second time", () -> house.came(0) * 1000 + house.came(1), 250250);
        Check.due("8 one more", () -> house.push(0), 1);
        Check.due("43 one more", () -> house.counted(0), 1);
        Check.due("7 501 numbers", () -> house.setWindow(5, 2), 501);
    }

    private static void argumentsThatWouldWrap() {
        ToplistHouse house = new ToplistHouse();
        // 9 times this is 5 more than 2 to the power of 32.
        Check.due("33 a product that would wrap", () -> house.quantile(477218589), ARGUMENT);
        Check.due("33 a negative one", () -> house.quantile(-477218588), ARGUMENT);
        // 100 times the one, or the sum of both, would be in range.
        Check.due("6 a product that would wrap", () -> house.setCosts(42949673, 0), ARGUMENT);
        Check.due("6 a sum that would wrap", () -> house.setCosts(Integer.MAX_VALUE, Integer.MIN_VALUE), ARGUMENT);
        Check.due("6 none of both was taken", () -> house.setCosts(1, 1), 101);
        // Bits of these numbers, shifted out, would leave the row 1.
        Check.due("31 a row that would wrap", () -> house.comparisons(33, 0), INDEX);
        Check.due("31 another row that would wrap", () -> house.comparisons(0, 33), INDEX);
        Check.due("31 a row that would wrap to the same", () -> house.comparisons(32, 0), INDEX);
        // Ranks and places to which no 1 can be added, and from which none can be taken.
        for (int far : new int[] {Integer.MAX_VALUE, Integer.MIN_VALUE, Integer.MAX_VALUE - 1}) {
            Check.due("11 place " + far, () -> house.thingAt(0, far), INDEX);
            Check.due("16 rank " + far, () -> house.ranked(far), INDEX);
            Check.due("18 depth " + far, () -> house.limit(far), ARGUMENT);
            Check.due("21 rank " + far, () -> house.best(1, far), INDEX);
            Check.due("21 k " + far, () -> house.best(far, 0), ARGUMENT);
            Check.due("22 depth " + far, () -> house.refute(1, far), ARGUMENT);
            Check.due("24 depth " + far, () -> house.upper(0, far), ARGUMENT);
            Check.due("41 rank " + far, () -> house.windowAt(far), INDEX);
            Check.due("46 rank " + far, () -> house.pairSum(0, 1, far), INDEX);
            Check.due("47 rank " + far, () -> house.pairPlace(1, 1, far, true), INDEX);
            Check.due("49 place " + far, () -> house.commonAt(0, 1, far), INDEX);
        }
    }
}
