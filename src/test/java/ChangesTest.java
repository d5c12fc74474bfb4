/** Promises 1 to 9: a new object, the changes, undo. */
public final class ChangesTest {
    private static final String INDEX = "throws IndexOutOfBoundsException";
    private static final String ARGUMENT = "throws IllegalArgumentException";
    private static final String NONE_SUCH = "throws NoSuchElementException";

    public static void main(String[] args) {
        newObject();
        put();
        drop();
        setWeight();
        setRule();
        setCosts();
        setWindow();
        push();
        undo();
        undoOfEachChange();
        refusedChangesAreNotUndone();
        Check.finish();
    }

    private static void newObject() {
        ToplistHouse house = new ToplistHouse();
        int[][][] rows = {{{0, 90}, {1, 80}, {2, 70}, {3, 10}}, {{1, 85}, {2, 75}, {0, 20}},
            {{2, 95}, {0, 60}, {4, 50}}, {}, {}};
        for (int row = 0; row < 5; row++) {
            int r = row;
            Check.due("1 itemCount(" + r + ")", () -> house.itemCount(r), rows[r].length);
            for (int place = 0; place < rows[r].length; place++) {
                int p = place;
                Check.due("1 thingAt(" + r + ", " + p + ")", () -> house.thingAt(r, p), rows[r][p][0]);
                Check.due("1 markAt(" + r + ", " + p + ")", () -> house.markAt(r, p), rows[r][p][1]);
            }
            Check.due("1 weight of row " + r, () -> new ToplistHouse().setWeight(r, 3), 1);
        }
        Check.due("1 rule", () -> new ToplistHouse().setRule(ToplistHouse.LEAST), ToplistHouse.SUM);
        Check.due("1 costs", () -> new ToplistHouse().setCosts(7, 8), 101);
        Check.due("1 nothing came by", () -> new ToplistHouse().setWindow(1, 1), 0);
        Check.due("1 window", house::windowSize, 0);
        Check.due("1 bound", house::bound, 0);
        Check.due("1 nothing to undo", house::undo, ToplistHouse.NONE);
        Check.due("1 two houses are two", () -> new ToplistHouse().put(0, 0, 1) + house.markAt(0, 0), 180);
    }

    private static void put() {
        ToplistHouse house = new ToplistHouse();
        Check.due("2 new item", () -> house.put(3, 19, 0), ToplistHouse.NONE);
        Check.due("2 item stands", () -> house.thingAt(3, 0), 19);
        Check.due("2 its mark", () -> house.markAt(3, 0), 0);
        Check.due("2 another mark", () -> house.put(3, 19, 99), 0);
        Check.due("2 the same mark", () -> house.put(3, 19, 99), 99);
        Check.due("2 still one item", () -> house.itemCount(3), 1);
        Check.due("2 behind one of the same mark", () -> house.put(3, 3, 99) + house.placeOf(3, 19), 0);
        Check.due("2 first row and thing", () -> house.put(0, 0, 5), 90);
        Check.due("2 it went behind", () -> house.placeOf(0, 0), 3);
        Check.due("2 other rows stay", () -> house.markAt(2, 1), 60);
        Check.due("2 last row", () -> house.put(4, 0, 1), ToplistHouse.NONE);
        for (int bad : new int[] {-1, 5, Integer.MAX_VALUE, Integer.MIN_VALUE}) {
            Check.refused("2 row " + bad, house, () -> house.put(bad, 0, 0), "IndexOutOfBoundsException");
        }
        for (int bad : new int[] {-1, 20, Integer.MAX_VALUE, Integer.MIN_VALUE}) {
            Check.refused("2 thing " + bad, house, () -> house.put(0, bad, 0), "IndexOutOfBoundsException");
        }
        for (int bad : new int[] {-1, 100, Integer.MAX_VALUE, Integer.MIN_VALUE}) {
            Check.refused("2 mark " + bad, house, () -> house.put(0, 0, bad), "IllegalArgumentException");
        }
        Check.refused("2 row and mark", house, () -> house.put(5, 0, 100), "IndexOutOfBoundsException");
        Check.refused("2 thing and mark", house, () -> house.put(0, 20, -1), "IndexOutOfBoundsException");
    }

    private static void drop() {
        ToplistHouse house = new ToplistHouse();
        Check.due("3 an item", () -> house.drop(0, 1), 80);
        Check.due("3 the others move up", () -> house.thingAt(0, 1), 2);
        Check.due("3 fewer items", () -> house.itemCount(0), 3);
        Check.due("3 not in other rows", () -> house.placeOf(1, 1), 0);
        house.put(4, 19, 0);
        Check.due("3 a mark of 0", () -> house.drop(4, 19), 0);
        Check.refused("3 dropped before", house, () -> house.drop(0, 1), "NoSuchElementException");
        Check.refused("3 empty row", house, () -> house.drop(3, 0), "NoSuchElementException");
        for (int bad : new int[] {-1, 5, Integer.MAX_VALUE, Integer.MIN_VALUE}) {
            Check.refused("3 row " + bad, house, () -> house.drop(bad, 0), "IndexOutOfBoundsException");
        }
        for (int bad : new int[] {-1, 20, Integer.MAX_VALUE, Integer.MIN_VALUE}) {
            Check.refused("3 thing " + bad, house, () -> house.drop(3, bad), "IndexOutOfBoundsException");
        }
    }

    private static void setWeight() {
        ToplistHouse house = new ToplistHouse();
        Check.due("4 first weight", () -> house.setWeight(0, 5), 1);
        Check.due("4 weight before", () -> house.setWeight(0, 0), 5);
        Check.due("4 other row", () -> house.setWeight(4, 2), 1);
        Check.due("4 it counts", () -> house.value(0), 80);
        Check.due("4 back", () -> house.setWeight(0, 2), 0);
        Check.due("4 it counts twice", () -> house.value(0), 260);
        for (int bad : new int[] {-1, 5, Integer.MAX_VALUE, Integer.MIN_VALUE}) {
            Check.refused("4 row " + bad, house, () -> house.setWeight(bad, 1), "IndexOutOfBoundsException");
        }
        for (int bad : new int[] {-1, 6, Integer.MAX_VALUE, Integer.MIN_VALUE}) {
            Check.refused("4 weight " + bad, house, () -> house.setWeight(1, bad), "IllegalArgumentException");
        }
        Check.refused("4 both", house, () -> house.setWeight(5, 6), "IndexOutOfBoundsException");
    }

    private static void setRule() {
        ToplistHouse house = new ToplistHouse();
        Check.due("5 to GREATEST", () -> house.setRule(ToplistHouse.GREATEST), ToplistHouse.SUM);
        Check.due("5 it counts", () -> house.value(0), 90);
        Check.due("5 to LEAST", () -> house.setRule(ToplistHouse.LEAST), ToplistHouse.GREATEST);
        Check.due("5 the same", () -> house.setRule(ToplistHouse.LEAST), ToplistHouse.LEAST);
        Check.due("5 to SUM", () -> house.setRule(ToplistHouse.SUM), ToplistHouse.LEAST);
        for (int bad : new int[] {-1, 3, Integer.MAX_VALUE, Integer.MIN_VALUE}) {
            Check.refused("5 rule " + bad, house, () -> house.setRule(bad), "IllegalArgumentException");
        }
    }

    private static void setCosts() {
        ToplistHouse house = new ToplistHouse();
        Check.due("6 first costs", () -> house.setCosts(99, 0), 101);
        Check.due("6 before", () -> house.setCosts(0, 99), 9900);
        Check.due("6 before that", () -> house.setCosts(3, 4), 99);
        for (int bad : new int[] {-1, 100, Integer.MAX_VALUE, Integer.MIN_VALUE}) {
            Check.refused("6 read " + bad, house, () -> house.setCosts(bad, 0), "IllegalArgumentException");
            Check.refused("6 ask " + bad, house, () -> house.setCosts(0, bad), "IllegalArgumentException");
        }
        Check.due("6 none of these counted", () -> house.setCosts(1, 1), 304);
    }

    private static void setWindow() {
        ToplistHouse house = new ToplistHouse();
        for (int number = 0; number < 7; number++) {
            house.push(number % 4);
        }
        Check.due("7 all that came by, not the window alone", () -> house.setWindow(10, 4), 7);
        Check.due("7 nothing came by", () -> house.came(1), 0);
        Check.due("7 the window is empty", house::windowSize, 0);
        Check.due("7 the counters are empty", () -> house.counted(2), 0);
        Check.due("7 the bound begins anew", house::bound, 0);
        Check.due("7 none came by", () -> house.setWindow(1, 1), 0);
        house.push(9);
        Check.due("7 the same width begins anew, too", () -> house.setWindow(1, 1), 1);
        Check.due("7 empty again", house::windowSize, 0);
        for (int bad : new int[] {0, 11, -1, Integer.MAX_VALUE, Integer.MIN_VALUE}) {
            Check.refused("7 width " + bad, house, () -> house.setWindow(bad, 1), "IllegalArgumentException");
        }
        for (int bad : new int[] {0, 5, -1, Integer.MAX_VALUE, Integer.MIN_VALUE}) {
            Check.refused("7 counters " + bad, house, () -> house.setWindow(1, bad), "IllegalArgumentException");
        }
    }

    private static void push() {
        ToplistHouse house = new ToplistHouse();
        for (int number : new int[] {0, 99, 7, 7, 50}) {
            Check.due("8 none leaves by " + number, () -> house.push(number), ToplistHouse.NONE);
        }
        Check.due("8 the oldest leaves", () -> house.push(1), 0);
        Check.due("8 the next one leaves", () -> house.push(1), 99);
        Check.due("8 the same number comes and leaves", () -> house.push(7), 7);
        house.setWindow(1, 1);
        Check.due("8 none leaves anew", () -> house.push(3), ToplistHouse.NONE);
        Check.due("8 a window of one", () -> house.push(4), 3);
        house.setWindow(10, 1);
        for (int number = 0; number < 10; number++) {
            house.push(number);
        }
        Check.due("8 a window of ten", () -> house.push(44), 0);
        for (int bad : new int[] {-1, 100, Integer.MAX_VALUE, Integer.MIN_VALUE}) {
            Check.refused("8 number " + bad, house, () -> house.push(bad), "IllegalArgumentException");
        }
    }

    private static void undo() {
        ToplistHouse house = new ToplistHouse();
        String first = Look.at(house);
        Check.due("9 nothing there", house::undo, ToplistHouse.NONE);
        Check.due("9 nothing different", () -> Look.at(house), first);
        house.put(0, 0, 90);
        Check.due("9 a change that changed nothing", house::undo, 0);
        String[] looks = new String[13];
        for (int change = 0; change < 12; change++) {
            looks[change] = Look.at(house);
            house.put(3, change, 50 + change);
        }
        for (int left = 7; left >= 0; left--) {
            int due = left;
            Check.due("9 undo with " + left + " left", house::undo, due);
            Check.due("9 the state with " + left + " left", () -> Look.at(house), looks[left + 4]);
        }
        Check.due("9 only 8", house::undo, ToplistHouse.NONE);
        Check.due("9 the older ones stay", () -> house.itemCount(3), 4);
        house.put(3, 9, 1);
        house.push(5);
        Check.due("9 new ones behind the undone", house::undo, 1);
        house.setRule(1);
        house.setRule(2);
        Check.due("9 undo is no change itself", house::undo, 2);
        Check.due("9 again", house::undo, 1);
        Check.due("9 and again", house::undo, 0);
        Check.due("9 to the end", house::undo, ToplistHouse.NONE);
    }

    private static void undoOfEachChange() {
        ToplistHouse house = new ToplistHouse();
        for (int number : new int[] {3, 7, 3, 42, 7, 99}) {
            house.push(number);
        }
        Check.Call[] changes = {() -> house.put(1, 7, 60), () -> house.put(1, 0, 99), () -> house.drop(0, 0),
            () -> house.setWeight(2, 4), () -> house.setRule(1), () -> house.setRule(2),
            () -> house.setCosts(5, 6), () -> house.setWindow(3, 3), () -> house.push(7), () -> house.push(0)};
        for (int i = 0; i < changes.length; i++) {
            String before = Look.at(house);
            changes[i].answer();
            Check.isTrue("9 change " + i + " shows", !Look.at(house).equals(before));
            house.undo();
            Check.due("9 change " + i + " undone", () -> Look.at(house), before);
        }
        Check.due("9 the window's number and costs are back", () -> house.push(1) * 1000 + house.setCosts(0, 0), 7101);
        Check.due("9 all numbers are back", () -> house.setWindow(1, 1), 7);
        house.undo();
        Check.due("9 counters are back", () -> house.counted(3) + 10 * house.bound(), 20);
        widthAndCountersAreBack();
    }

    private static void widthAndCountersAreBack() {
        ToplistHouse house = new ToplistHouse();
        house.push(1);
        house.push(2);
        house.setWindow(1, 4);
        house.undo();
        Check.due("9 width is back", () -> house.push(3), ToplistHouse.NONE);
        Check.due("9 the number of counters is back", house::bound, 1);
    }

    private static void refusedChangesAreNotUndone() {
        ToplistHouse house = new ToplistHouse();
        Check.due("8 put", () -> house.put(0, 0, 100), ARGUMENT);
        Check.due("8 put", () -> house.put(0, 20, 0), INDEX);
        Check.due("8 drop", () -> house.drop(0, 19), NONE_SUCH);
        Check.due("8 drop", () -> house.drop(9, 1), INDEX);
        Check.due("8 setWeight", () -> house.setWeight(0, 6), ARGUMENT);
        Check.due("8 setRule", () -> house.setRule(3), ARGUMENT);
        Check.due("8 setCosts", () -> house.setCosts(0, 100), ARGUMENT);
        Check.due("8 setWindow", () -> house.setWindow(1, 5), ARGUMENT);
        Check.due("8 push", () -> house.push(100), ARGUMENT);
        Check.due("8 none of these can be undone", house::undo, ToplistHouse.NONE);
        Look.at(house);
        Check.due("8 a look is no change", house::undo, ToplistHouse.NONE);
        house.put(0, 0, 1);
        house.drop(0, 0);
        house.setWeight(0, 0);
        house.setRule(0);
        house.setCosts(1, 1);
        house.setWindow(5, 2);
        house.push(0);
        Check.due("8 each of the seven is a change", () -> Houses.countUndone(house), 7);
    }
}
