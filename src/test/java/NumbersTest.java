/** Promises 40 to 45: numbers that come by. */
public final class NumbersTest {
    private static final String INDEX = "IndexOutOfBoundsException";
    private static final String ARGUMENT = "IllegalArgumentException";

    public static void main(String[] args) {
        window();
        windowOfOneAndTen();
        counters();
        counterThatIsFreedIsTakenAgain();
        oneCounter();
        fourCounters();
        beginAnew();
        countsKeepTheirBound();
        wrongArguments();
        Check.finish();
    }

    private static void hasWindow(String what, ToplistHouse house, int... numbers) {
        Check.due("40 " + what, house::windowSize, numbers.length);
        for (int rank = 0; rank < numbers.length; rank++) {
            int r = rank;
            Check.due("41 " + what + ", rank " + r, () -> house.windowAt(r), numbers[r]);
        }
        Check.refused("41 " + what + ", behind the last", house, () -> house.windowAt(numbers.length), INDEX);
    }

    private static void window() {
        hasWindow("nothing", Houses.pushed());
        hasWindow("one", Houses.pushed(0), 0);
        hasWindow("fewer than the width", Houses.pushed(3, 99, 3), 99, 3, 3);
        hasWindow("as many as the width", Houses.pushed(1, 2, 3, 4, 5), 5, 4, 3, 2, 1);
        hasWindow("more than the width", Houses.pushed(99, 98, 1, 7, 7, 1, 7), 7, 7, 7, 1, 1);
        Check.due("42 nothing", () -> Houses.pushed().unlike(), 0);
        Check.due("42 one", () -> Houses.pushed(0).unlike(), 1);
        Check.due("42 all unlike", () -> Houses.pushed(1, 2, 3, 4, 5).unlike(), 5);
        Check.due("42 some alike", () -> Houses.pushed(1, 2, 1, 2, 5).unlike(), 3);
        Check.due("42 all alike", () -> Houses.pushed(6, 6, 6, 6).unlike(), 1);
        Check.due("42 not those that left", () -> Houses.pushed(8, 9, 6, 6, 6, 6, 6).unlike(), 1);
    }

    private static void windowOfOneAndTen() {
        ToplistHouse house = new ToplistHouse();
        house.setWindow(1, 1);
        house.push(50);
        house.push(4);
        hasWindow("a width of 1", house, 4);
        house.setWindow(10, 1);
        for (int number = 0; number < 25; number++) {
            house.push(number * 7 % 20);
        }
        hasWindow("a width of 10", house, 19, 14, 13, 12, 8, 7, 6, 5, 1, 0);
        Check.due("42 a width of 10", house::unlike, 10);
    }

    private static void counters() {
        ToplistHouse house = Houses.pushed(1, 2, 1);
        Check.due("43 counts", () -> house.counted(1), 2);
        Check.due("43 counts another one", () -> house.counted(2), 1);
        Check.due("43 has not this one", () -> house.counted(3), 0);
        Check.due("45 none yet", house::bound, 0);
        house.push(3);
        Check.due("43 one less", () -> house.counted(1), 1);
        Check.due("43 no number any more", () -> house.counted(2), 0);
        Check.due("43 the new one is not taken", () -> house.counted(3), 0);
        Check.due("44 but it came", () -> house.came(3), 1);
        Check.due("44 all of 1", () -> house.came(1), 2);
        Check.due("44 all of 2", () -> house.came(2), 1);
        Check.due("44 never", () -> house.came(0), 0);
        Check.due("45 once", house::bound, 1);
    }

    private static void counterThatIsFreedIsTakenAgain() {
        ToplistHouse house = Houses.pushed(1, 1, 2, 3, 4, 4);
        // 1: 2, 2: 1; by 3: 1: 1, and a counter without a number; 4 takes it.
        Check.due("43 the free counter", () -> house.counted(4), 2);
        Check.due("43 the other one stays", () -> house.counted(1), 1);
        house.push(9);
        house.push(8);
        Check.due("43 the one that was freed", () -> house.counted(8), 1);
        Check.due("43 the last of it", () -> house.counted(4), 1);
        Check.due("43 not 9", () -> house.counted(9), 0);
        Check.due("45 twice", house::bound, 2);
        house.push(9);
        Check.due("43 both come to 0", () -> house.counted(4) + house.counted(8) + house.counted(9), 0);
        house.push(0);
        house.push(99);
        Check.due("43 the least number", () -> house.counted(0), 1);
        Check.due("43 the greatest number", () -> house.counted(99), 1);
        Check.due("45 three times", house::bound, 3);
    }

    private static void oneCounter() {
        ToplistHouse house = new ToplistHouse();
        house.setWindow(5, 1);
        for (int number : new int[] {7, 8, 8, 7, 7, 7}) {
            house.push(number);
        }
        Check.due("43 one counter", () -> house.counted(7), 2);
        Check.due("43 not the other", () -> house.counted(8), 0);
        Check.due("45 one counter", house::bound, 2);
        Check.due("44 one counter", () -> house.came(7), 4);
    }

    private static void fourCounters() {
        ToplistHouse house = new ToplistHouse();
        house.setWindow(1, 4);
        for (int number : new int[] {1, 2, 3, 4, 4, 3, 2}) {
            house.push(number);
        }
        Check.due("45 four counters", house::bound, 0);
        Check.due("43 four counters", () -> house.counted(1) * 1000 + house.counted(2) * 100
                + house.counted(3) * 10 + house.counted(4), 1222);
        house.push(5);
        Check.due("43 four counters, all less", () -> house.counted(1) * 1000 + house.counted(2) * 100
                + house.counted(3) * 10 + house.counted(4), 111);
        Check.due("45 four counters, once", house::bound, 1);
    }

    private static void beginAnew() {
        ToplistHouse house = Houses.pushed(1, 2, 3, 4, 5, 6, 7);
        Check.due("45 before", house::bound, 2);
        house.setWindow(5, 2);
        hasWindow("anew", house);
        Check.due("42 anew", house::unlike, 0);
        Check.due("45 anew", house::bound, 0);
        for (int number = 0; number < 100; number++) {
            int n = number;
            Check.due("43 anew " + n, () -> house.counted(n), 0);
            Check.due("44 anew " + n, () -> house.came(n), 0);
        }
        house.push(8);
        house.push(9);
        Check.due("43 both counters are free anew", () -> house.counted(8) * 10 + house.counted(9), 11);
        Check.due("45 both counters are free anew", house::bound, 0);
        Check.due("44 the greatest number", () -> Houses.pushed(99, 0, 99).came(99), 2);
        house.undo();
        house.undo();
        house.undo();
        hasWindow("back", house, 7, 6, 5, 4, 3);
        Check.due("45 back", house::bound, 2);
        ToplistHouse twice = Houses.pushed(6, 6, 5);
        twice.setWindow(5, 2);
        twice.push(4);
        Check.due("43 counts from 0 anew", () -> twice.counted(4), 1);
        Check.due("43 back", () -> house.counted(7), 1);
        Check.due("44 back", () -> house.came(1), 1);
    }

    private static void countsKeepTheirBound() {
        ToplistHouse house = new ToplistHouse();
        house.setWindow(3, 3);
        for (int i = 0; i < 400; i++) {
            house.push(i * i % 13 * (i % 3));
        }
        for (int number = 0; number < 100; number++) {
            int came = house.came(number);
            int counted = house.counted(number);
            Check.isTrue("44 and 45, number " + number, counted <= came && came <= counted + house.bound());
        }
        Check.due("7 all 400", () -> house.setWindow(1, 1), 400);
    }

    private static void wrongArguments() {
        ToplistHouse house = Houses.pushed(4, 5);
        for (int bad : new int[] {-1, 2, 5, 10, Integer.MIN_VALUE, Integer.MAX_VALUE}) {
            Check.refused("41 rank " + bad, house, () -> house.windowAt(bad), INDEX);
        }
        for (int bad : new int[] {-1, 100, Integer.MIN_VALUE, Integer.MAX_VALUE}) {
            Check.refused("43 number " + bad, house, () -> house.counted(bad), ARGUMENT);
            Check.refused("44 number " + bad, house, () -> house.came(bad), ARGUMENT);
        }
    }
}
