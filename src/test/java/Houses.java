/** Houses that the tests begin with. */
final class Houses {
    private Houses() {
    }

    /** A house without items; its eight latest changes are the drops. */
    static ToplistHouse empty() {
        ToplistHouse house = new ToplistHouse();
        for (int row = 0; row < 3; row++) {
            while (house.itemCount(row) > 0) {
                house.drop(row, house.thingAt(row, 0));
            }
        }
        return house;
    }

    /** A house with just these items: row, thing and mark of each, one behind the other. */
    static ToplistHouse of(int... items) {
        ToplistHouse house = empty();
        for (int i = 0; i + 2 < items.length; i += 3) {
            house.put(items[i], items[i + 1], items[i + 2]);
        }
        return house;
    }

    /** A house with all 20 things in all 5 rows: the mark of a thing in a row is 4 times the thing, plus the row. */
    static ToplistHouse full() {
        ToplistHouse house = empty();
        for (int row = 0; row < 5; row++) {
            for (int thing = 0; thing < 20; thing++) {
                house.put(row, thing, 4 * thing + row);
            }
        }
        return house;
    }

    /** A house with all 20 things in all 5 rows, put in from the last row and thing on, each with this mark. */
    static ToplistHouse alike(int mark) {
        ToplistHouse house = empty();
        for (int row = 4; row >= 0; row--) {
            for (int thing = 19; thing >= 0; thing--) {
                house.put(row, thing, mark);
            }
        }
        return house;
    }

    /** A house with one row that has all 20 things, the first thing with the mark 99, each next one with 1 less. */
    static ToplistHouse oneRow(int row) {
        ToplistHouse house = empty();
        for (int thing = 0; thing < 20; thing++) {
            house.put(row, thing, 99 - thing);
        }
        return house;
    }

    /** A house with these orders in its rows, the first thing of an order with the greatest mark. */
    static ToplistHouse votes(int[]... orders) {
        ToplistHouse house = empty();
        for (int row = 0; row < orders.length; row++) {
            for (int place = 0; place < orders[row].length; place++) {
                house.put(row, orders[row][place], 90 - place);
            }
        }
        return house;
    }

    /** A new house by which these numbers came. */
    static ToplistHouse pushed(int... numbers) {
        ToplistHouse house = new ToplistHouse();
        for (int number : numbers) {
            house.push(number);
        }
        return house;
    }

    /** A house with nothing as it was at first, and with more changes than can be undone. */
    static ToplistHouse lived() {
        ToplistHouse house = new ToplistHouse();
        house.setWindow(4, 3);
        for (int number : new int[] {42, 7, 42, 0, 99, 7, 3}) {
            house.push(number);
        }
        house.put(3, 7, 60);
        house.put(3, 0, 60);
        house.put(1, 0, 85);
        house.drop(0, 3);
        house.setWeight(2, 4);
        house.setWeight(4, 0);
        house.setRule(ToplistHouse.GREATEST);
        house.setCosts(5, 6);
        house.push(7);
        return house;
    }

    /** How many changes can be undone; undoes them all. */
    static int countUndone(ToplistHouse house) {
        int count = 0;
        while (house.undo() != ToplistHouse.NONE) {
            count++;
        }
        return count;
    }
}
