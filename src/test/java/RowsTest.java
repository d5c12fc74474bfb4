/** Promises 10 to 17: rows and values. */
public final class RowsTest {
    private static final String INDEX = "IndexOutOfBoundsException";
    private static final String NONE_SUCH = "NoSuchElementException";
    private static final int[] FAR = {Integer.MIN_VALUE, -1, Integer.MAX_VALUE};

    public static void main(String[] args) {
        itemCount();
        thingAtAndMarkAt();
        placeOf();
        valueBySum();
        valueByLeast();
        valueByGreatest();
        ranking();
        rankingWithTies();
        wrongArguments();
        Check.finish();
    }

    private static void itemCount() {
        ToplistHouse house = Houses.full();
        Check.due("10 full", () -> house.itemCount(0), 20);
        Check.due("10 full, last row", () -> house.itemCount(4), 20);
        house.drop(4, 0);
        Check.due("10 one less", () -> house.itemCount(4), 19);
        Check.due("10 empty", () -> Houses.empty().itemCount(0), 0);
        Check.refused("10 row 5", house, () -> house.itemCount(5), INDEX);
        Check.refused("10 row -1", house, () -> house.itemCount(-1), INDEX);
    }

    private static void thingAtAndMarkAt() {
        ToplistHouse house = Houses.of(2, 19, 40, 2, 3, 40, 2, 7, 99, 2, 0, 0, 2, 11, 40);
        int[] things = {7, 3, 11, 19, 0};
        int[] marks = {99, 40, 40, 40, 0};
        for (int place = 0; place < 5; place++) {
            int p = place;
            Check.due("11 place " + p, () -> house.thingAt(2, p), things[p]);
            Check.due("12 place " + p, () -> house.markAt(2, p), marks[p]);
            Check.due("13 thing " + things[p], () -> house.placeOf(2, things[p]), p);
        }
        Check.refused("11 place 5", house, () -> house.thingAt(2, 5), INDEX);
        Check.refused("12 place 5", house, () -> house.markAt(2, 5), INDEX);
        Check.refused("11 empty row", house, () -> house.thingAt(3, 0), INDEX);
        Check.refused("12 empty row", house, () -> house.markAt(3, 0), INDEX);
        ToplistHouse full = Houses.full();
        Check.due("11 last place", () -> full.thingAt(4, 19), 0);
        Check.due("12 last place", () -> full.markAt(4, 19), 4);
        Check.refused("11 place 20", full, () -> full.thingAt(4, 20), INDEX);
        Check.refused("12 place 20", full, () -> full.markAt(4, 20), INDEX);
    }

    private static void placeOf() {
        ToplistHouse house = new ToplistHouse();
        Check.due("13 first", () -> house.placeOf(2, 2), 0);
        Check.due("13 last", () -> house.placeOf(0, 3), 3);
        Check.due("13 in another row", () -> house.placeOf(1, 2), 1);
        Check.refused("13 no item", house, () -> house.placeOf(1, 3), NONE_SUCH);
        Check.refused("13 unknown", house, () -> house.placeOf(3, 19), NONE_SUCH);
        Check.refused("13 row and thing", house, () -> house.placeOf(5, 20), INDEX);
        Check.refused("13 thing in an empty row", house, () -> house.placeOf(3, 20), INDEX);
        Check.refused("13 row of an unknown thing", house, () -> house.placeOf(5, 19), INDEX);
    }

    private static void valueBySum() {
        ToplistHouse house = new ToplistHouse();
        int[] values = {170, 165, 240, 10, 50, 0};
        for (int thing = 0; thing < 6; thing++) {
            int t = thing;
            Check.due("14 SUM of " + t, () -> house.value(t), values[t]);
        }
        house.setWeight(0, 2);
        house.setWeight(1, 0);
        house.setWeight(2, 5);
        Check.due("14 SUM with weights", () -> house.value(0), 480);
        Check.due("14 SUM with weights, no item in a row", () -> house.value(1), 160);
        house.put(4, 19, 99);
        house.setWeight(4, 5);
        Check.due("14 SUM in the last row", () -> house.value(19), 495);
    }

    private static void valueByLeast() {
        ToplistHouse house = new ToplistHouse();
        house.setRule(ToplistHouse.LEAST);
        Check.due("14 LEAST with empty rows", () -> house.value(2), 0);
        house.setWeight(3, 0);
        house.setWeight(4, 0);
        Check.due("14 LEAST of three", () -> house.value(2), 70);
        Check.due("14 LEAST without an item in a row", () -> house.value(1), 0);
        house.setWeight(2, 0);
        Check.due("14 LEAST of two", () -> house.value(1), 80);
        house.setWeight(0, 5);
        Check.due("14 LEAST by weighted marks", () -> house.value(1), 85);
        Check.due("14 LEAST by weighted marks, other thing", () -> house.value(0), 20);
        Check.due("14 LEAST of an unknown thing", () -> house.value(9), 0);
        house.setWeight(0, 0);
        house.setWeight(1, 0);
        Check.due("14 LEAST without rows", () -> house.value(0), 0);
    }

    private static void valueByGreatest() {
        ToplistHouse house = new ToplistHouse();
        house.setRule(ToplistHouse.GREATEST);
        Check.due("14 GREATEST", () -> house.value(0), 90);
        Check.due("14 GREATEST in another row", () -> house.value(2), 95);
        house.setWeight(1, 5);
        Check.due("14 GREATEST by weighted marks", () -> house.value(0), 100);
        for (int row = 0; row < 5; row++) {
            house.setWeight(row, 0);
        }
        Check.due("14 GREATEST without weights", () -> house.value(2), 0);
        Check.due("14 GREATEST of an unknown thing", () -> house.value(19), 0);
    }

    private static void ranking() {
        ToplistHouse house = new ToplistHouse();
        int[] things = {2, 0, 1, 4, 3};
        Check.due("15 known", house::knownCount, 5);
        for (int rank = 0; rank < 5; rank++) {
            int r = rank;
            Check.due("16 rank " + r, () -> house.ranked(r), things[r]);
            Check.due("17 thing " + things[r], () -> house.rankOf(things[r]), r);
        }
        Check.refused("16 rank 5", house, () -> house.ranked(5), INDEX);
        Check.refused("17 unknown", house, () -> house.rankOf(5), NONE_SUCH);
        house.drop(2, 4);
        Check.due("15 one less", house::knownCount, 4);
        Check.refused("17 known no more", house, () -> house.rankOf(4), NONE_SUCH);
        house.drop(1, 1);
        Check.due("15 still known by another row", house::knownCount, 4);
        Check.due("15 empty", () -> Houses.empty().knownCount(), 0);
        Check.due("16 empty", () -> Houses.empty().ranked(0), "throws " + INDEX);
        Check.due("15 full", () -> Houses.full().knownCount(), 20);
        Check.due("16 full, last rank", () -> Houses.full().ranked(19), 0);
        Check.due("17 full, last rank", () -> Houses.full().rankOf(0), 19);
    }

    private static void rankingWithTies() {
        ToplistHouse house = Houses.of(0, 9, 30, 1, 4, 30, 2, 6, 10, 3, 6, 20, 4, 19, 0, 4, 2, 0);
        int[] things = {4, 6, 9, 2, 19};
        for (int rank = 0; rank < 5; rank++) {
            int r = rank;
            Check.due("16 same values, rank " + r, () -> house.ranked(r), things[r]);
            Check.due("17 same values, thing " + things[r], () -> house.rankOf(things[r]), r);
        }
        for (int row = 0; row < 5; row++) {
            house.setWeight(row, 0);
        }
        Check.due("15 known without weights", house::knownCount, 5);
        Check.due("16 by numbers alone", () -> house.ranked(4), 19);
        Check.due("16 by numbers alone, first", () -> house.ranked(0), 2);
        Check.due("17 by numbers alone", () -> house.rankOf(6), 2);
    }

    private static void wrongArguments() {
        ToplistHouse house = new ToplistHouse();
        for (int bad : FAR) {
            Check.refused("10 row " + bad, house, () -> house.itemCount(bad), INDEX);
            Check.refused("11 row " + bad, house, () -> house.thingAt(bad, 0), INDEX);
            Check.refused("11 place " + bad, house, () -> house.thingAt(0, bad), INDEX);
            Check.refused("12 row " + bad, house, () -> house.markAt(bad, 0), INDEX);
            Check.refused("12 place " + bad, house, () -> house.markAt(0, bad), INDEX);
            Check.refused("13 row " + bad, house, () -> house.placeOf(bad, 0), INDEX);
            Check.refused("13 thing " + bad, house, () -> house.placeOf(0, bad), INDEX);
            Check.refused("14 thing " + bad, house, () -> house.value(bad), INDEX);
            Check.refused("16 rank " + bad, house, () -> house.ranked(bad), INDEX);
            Check.refused("17 thing " + bad, house, () -> house.rankOf(bad), INDEX);
        }
        Check.refused("11 row 5", house, () -> house.thingAt(5, 0), INDEX);
        Check.refused("12 row 5", house, () -> house.markAt(5, 0), INDEX);
        Check.refused("14 thing 20", house, () -> house.value(20), INDEX);
        Check.refused("17 thing 20", house, () -> house.rankOf(20), INDEX);
    }
}
