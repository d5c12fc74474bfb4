/** Numbers that come by, at the edges: windows and counters with nothing, with fewer, with all and with one more. */
public final class NumbersEdgesTest {
    private static final String INDEX = "throws IndexOutOfBoundsException";
    private static final int NONE = ToplistHouse.NONE;

    public static void main(String[] args) {
        beforeAnythingCame();
        fewerAsManyAndMoreThanTheWidth();
        firstWidthAndCounters();
        numberOfAllNumbers();
        allCountersTaken();
        countersThatComeTo0();
        countersThatDoNotComeTo0();
        newNumberIsNotTaken();
        numbersAreCountedOutsideTheWindow();
        boundHolds();
        Check.finish();
    }

    private static void beforeAnythingCame() {
        for (int width = 0; width <= 10; width++) {
            ToplistHouse house = new ToplistHouse();
            if (width > 0) {
                house.setWindow(width, 4);
            }
            Check.due("40 nothing came", house::windowSize, 0);
            Check.due("41 nothing came", () -> house.windowAt(0), INDEX);
            Check.due("42 nothing came", house::unlike, 0);
            Check.due("45 nothing came", house::bound, 0);
            for (int number = 0; number < 100; number++) {
                int n = number;
                Check.due("43 nothing came, " + n, () -> house.counted(n), 0);
                Check.due("44 nothing came, " + n, () -> house.came(n), 0);
            }
            Check.due("7 nothing came", () -> house.setWindow(5, 2), 0);
        }
    }

    /** "the latest w of them (1 to 10 ...), or all, if fewer came". */
    private static void fewerAsManyAndMoreThanTheWidth() {
        for (int width = 1; width <= 10; width++) {
            ToplistHouse house = new ToplistHouse();
            house.setWindow(width, 1);
            for (int came = 1; came <= width + 12; came++) {
                int leaves = came <= width ? NONE : 99 - (came - 1 - width);
                int number = 100 - came;
                String what = "width " + width + ", number " + came;
                Check.due("8 " + what, () -> house.push(number), leaves);
                int size = Math.min(came, width);
                Check.due("40 " + what, house::windowSize, size);
                Check.due("42 " + what, house::unlike, size);
                Check.due("41 the least, " + what, () -> house.windowAt(size - 1), number);
                Check.due("41 the greatest, " + what, () -> house.windowAt(0), number + size - 1);
                Check.due("41 no more, " + what, () -> house.windowAt(size), INDEX);
            }
        }
    }

    /** "5 at first", "2 at first". */
    private static void firstWidthAndCounters() {
        ToplistHouse house = new ToplistHouse();
        for (int number = 0; number < 5; number++) {
            int n = number;
            Check.due("8 none leaves a window of five, " + n, () -> house.push(n % 2), NONE);
        }
        Check.due("45 two numbers, two counters", house::bound, 0);
        Check.due("8 the sixth", () -> house.push(2), 0);
        Check.due("45 a third number", house::bound, 1);
        Check.due("40 still five", house::windowSize, 5);
    }

    private static void numberOfAllNumbers() {
        ToplistHouse house = new ToplistHouse();
        house.setWindow(1, 1);
        for (int number = 0; number < 100; number++) {
            house.push(number);
        }
        for (int number = 0; number < 100; number++) {
            int n = number;
            Check.due("44 each once, " + n, () -> house.came(n), 1);
        }
        Check.due("45 each second one", house::bound, 50);
        Check.due("7 all", () -> house.setWindow(1, 1), 100);
    }

    /** "a counter without a number takes it with the count 1; if there is none of these, ... 1 less". */
    private static void allCountersTaken() {
        for (int counters = 1; counters <= 4; counters++) {
            ToplistHouse house = new ToplistHouse();
            house.setWindow(5, counters);
            for (int number = 0; number < counters; number++) {
                int n = number;
                house.push(n);
                Check.due("43 counter " + n + " of " + counters, () -> house.counted(n), 1);
                Check.due("45 a counter was free", house::bound, 0);
            }
            for (int number = 0; number < counters; number++) {
                int n = number;
                house.push(n);
                Check.due("43 one more, counter " + n + " of " + counters, () -> house.counted(n), 2);
                Check.due("45 a counter has it", house::bound, 0);
            }
            house.push(99);
            Check.due("45 none is free, " + counters, house::bound, 1);
            for (int number = 0; number < counters; number++) {
                int n = number;
                Check.due("43 one less, counter " + n + " of " + counters, () -> house.counted(n), 1);
            }
            Check.due("43 the new one was not taken, " + counters, () -> house.counted(99), 0);
            Check.due("44 but it came, " + counters, () -> house.came(99), 1);
        }
    }

    /** "those that come to 0 have no number any more". */
    private static void countersThatComeTo0() {
        for (int counters = 1; counters <= 4; counters++) {
            ToplistHouse house = new ToplistHouse();
            house.setWindow(5, counters);
            for (int number = 0; number <= counters; number++) {
                house.push(number);
            }
            Check.due("45 all counted less, " + counters, house::bound, 1);
            for (int number = 0; number <= counters; number++) {
                int n = number;
                Check.due("43 no counter has " + n + " of " + counters, () -> house.counted(n), 0);
            }
            // All are free again: as many numbers as there are counters find one.
            for (int number = 0; number < counters; number++) {
                int n = 50 + number;
                house.push(n);
                Check.due("43 a counter was free for " + n, () -> house.counted(n), 1);
            }
            Check.due("45 none counted less, " + counters, house::bound, 1);
            house.push(0);
            Check.due("45 none is free again, " + counters, house::bound, 2);
            Check.due("43 from 0 on", () -> house.counted(50), 0);
        }
    }

    private static void countersThatDoNotComeTo0() {
        ToplistHouse house = new ToplistHouse();
        house.setWindow(5, 3);
        for (int number : new int[] {1, 1, 1, 2, 2, 3, 4}) {
            house.push(number);
        }
        Check.due("43 three less one", () -> house.counted(1), 2);
        Check.due("43 two less one", () -> house.counted(2), 1);
        Check.due("43 one less one", () -> house.counted(3), 0);
        house.push(3);
        Check.due("43 it takes a counter anew", () -> house.counted(3), 1);
        Check.due("45 none counted less by it", house::bound, 1);
        house.push(9);
        Check.due("43 two less one", () -> house.counted(1), 1);
        Check.due("43 both of the others came to 0", () -> house.counted(2) + house.counted(3), 0);
        house.push(2);
        house.push(9);
        Check.due("43 both find a counter", () -> house.counted(2) * 10 + house.counted(9), 11);
        Check.due("45 twice", house::bound, 2);
    }

    private static void newNumberIsNotTaken() {
        ToplistHouse house = new ToplistHouse();
        house.setWindow(5, 1);
        house.push(0);
        Check.due("43 the number 0 takes a counter", () -> house.counted(0), 1);
        house.push(99);
        Check.due("43 the counter of 0 has no number", () -> house.counted(0), 0);
        Check.due("43 99 does not take it at once", () -> house.counted(99), 0);
        house.push(99);
        Check.due("43 but the next time", () -> house.counted(99), 1);
        house.push(0);
        house.push(0);
        Check.due("43 and so does 0", () -> house.counted(0), 1);
        Check.due("45 twice", house::bound, 2);
        Check.due("44 all of both", () -> house.came(0) * 10 + house.came(99), 32);
    }

    private static void numbersAreCountedOutsideTheWindow() {
        ToplistHouse house = new ToplistHouse();
        house.setWindow(1, 4);
        for (int number : new int[] {8, 8, 7, 8, 6}) {
            house.push(number);
        }
        Check.due("40 one in the window", house::windowSize, 1);
        Check.due("44 of all that came", () -> house.came(8), 3);
        Check.due("43 of all that came", () -> house.counted(8), 3);
        Check.due("44 one that left the window", () -> house.came(7), 1);
        Check.due("42 of the window alone", house::unlike, 1);
    }

    /** "at least counted(number), and at most that plus bound()", after each number, with each number of counters. */
    private static void boundHolds() {
        for (int counters = 1; counters <= 4; counters++) {
            ToplistHouse house = new ToplistHouse();
            house.setWindow(10, counters);
            for (int i = 0; i < 120; i++) {
                house.push(i * i % 11 * (i % 2) + i % 3);
                int sum = 0;
                for (int number = 0; number < 100; number++) {
                    int over = house.came(number) - house.counted(number);
                    Check.isTrue("44 number " + number + ", push " + i, over >= 0 && over <= house.bound());
                    sum += over;
                }
                // Each time all count less takes one from each counter, and leaves the new number out.
                int due = house.bound() * (counters + 1);
                int missing = sum;
                Check.due("45 push " + i + ", " + counters + " counters", () -> missing, due);
            }
        }
    }
}
