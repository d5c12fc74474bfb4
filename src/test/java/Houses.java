/** Houses that the tests begin with. */
final class Houses {
    private Houses() {
    }

    /** A house without items; its eight latest changes are the drops. */
    static ToplistHouse empty() {
        ToplistHouse house = new ToplistHouse();
        for (int row = 0; row < 3; row++) {
            while (house.itemCount(row) > 0) {
                house.drop(row, house.thingAt(row, 0));
            }
        }
        return house;
    }

    /** A house with just these items: row, thing and mark of each, one behind the other. */
    static ToplistHouse of(int... items) {
        ToplistHouse house = empty();
        for (int i = 0; i + 2 < items.length; i += 3) {
            house.put(items[i], items[i + 1], items[i + 2]);
        }
        return house;
    }

    /** A house with all 20 things in all 5 rows: the mark of a thing in a row is 4 times the thing, plus the row. */
    static ToplistHouse full() {
        ToplistHouse house = empty();
        for (int row = 0; row < 5; row++) {
            for (int thing = 0; thing < 20; thing++) {
                house.put(row, thing, 4 * thing + row);
            }
        }
        return house;
    }

    /** How many changes can be undone; undoes them all. */
    static int countUndone(ToplistHouse house) {
        int count = 0;
        while (house.undo() != ToplistHouse.NONE) {
            count++;
        }
        return count;
    }
}
