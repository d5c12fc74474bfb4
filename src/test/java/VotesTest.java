/** Promises 34 to 39: votes. */
public final class VotesTest {
    private static final String INDEX = "IndexOutOfBoundsException";
    private static final String NONE_SUCH = "NoSuchElementException";
    private static final int[] BAD_INDEX = {-1, 20, Integer.MIN_VALUE, Integer.MAX_VALUE};

    public static void main(String[] args) {
        newHouse();
        candidates();
        prefer();
        winner();
        ring();
        longRings();
        leastOrder();
        leastOrderOfSeveral();
        Check.finish();
    }

    private static void newHouse() {
        ToplistHouse house = new ToplistHouse();
        Check.due("34", house::candidates, 5);
        // Row 0: 0 1 2 3; row 1: 1 2 0; row 2: 2 0 4. So 0 beats 1, 1 beats 2, 2 beats 0.
        Check.due("35 0 and 1", () -> house.prefer(0, 1), 2);
        Check.due("35 1 and 0", () -> house.prefer(1, 0), 1);
        Check.due("35 2 and 0", () -> house.prefer(2, 0), 2);
        Check.refused("36", house, house::winner, NONE_SUCH);
        Check.due("37", house::ring, 3);
        // 0 1 2: 1 + 1 + 2; 1 2 0: 2 + 1 + 1; 2 0 1: 2 + 1 + 1; 4 has an item ahead of none but by 1 and 3.
        Check.due("39 first", () -> house.orderAt(0), 0);
        Check.due("39 second", () -> house.orderAt(1), 1);
        Check.due("39 third", () -> house.orderAt(2), 2);
        // 3 is ahead of 4 in row 0, 4 of 3 in row 2; 4 is ahead of 1 in row 2.
        Check.due("39 fourth", () -> house.orderAt(3), 3);
        Check.due("39 last", () -> house.orderAt(4), 4);
        Check.due("38", house::swaps, 4 + 1 + 1);
    }

    private static void candidates() {
        ToplistHouse house = Houses.full();
        Check.due("34 at most 6", house::candidates, 6);
        house = Houses.votes(new int[] {19, 18, 17, 16, 15, 14, 13, 2});
        ToplistHouse some = house;
        Check.due("34 8 known things", some::candidates, 6);
        Check.due("36 of the least numbers", some::winner, 17);
        Check.due("39 the first candidate", () -> some.orderAt(0), 17);
        Check.due("39 the last candidate", () -> some.orderAt(5), 2);
        Check.refused("39 place 6", some, () -> some.orderAt(6), INDEX);
        Check.due("34 none", () -> Houses.empty().candidates(), 0);
        Check.due("34 one", () -> Houses.of(3, 7, 0).candidates(), 1);
        Check.due("34 weights do not matter", () -> Houses.of(0, 7, 0).setWeight(0, 0), 1);
        some.setWeight(0, 0);
        Check.due("36 weights do not matter", some::winner, 17);
    }

    private static void prefer() {
        ToplistHouse house = Houses.full();
        Check.due("35 all rows", () -> house.prefer(19, 0), 5);
        Check.due("35 no row", () -> house.prefer(0, 19), 0);
        Check.due("35 itself", () -> house.prefer(7, 7), 0);
        house.drop(0, 19);
        Check.due("35 no item", () -> house.prefer(19, 0), 4);
        Check.due("35 the other one has none", () -> house.prefer(0, 19), 1);
        house.put(1, 3, 50);
        house.put(1, 2, 50);
        Check.due("35 same marks", () -> house.prefer(2, 3), 1);
        Check.due("35 same marks, turned", () -> house.prefer(3, 2), 4);
        Check.due("35 none of both", () -> new ToplistHouse().prefer(18, 19), 0);
        Check.due("35 an unknown one", () -> new ToplistHouse().prefer(0, 19), 3);
        for (int bad : BAD_INDEX) {
            Check.refused("35 thing " + bad, house, () -> house.prefer(bad, 0), INDEX);
            Check.refused("35 other " + bad, house, () -> house.prefer(0, bad), INDEX);
        }
    }

    private static void winner() {
        Check.due("36 a single candidate", () -> Houses.of(4, 19, 0).winner(), 19);
        ToplistHouse empty = Houses.empty();
        Check.refused("36 no candidates", empty, empty::winner, NONE_SUCH);
        ToplistHouse even = Houses.votes(new int[] {3, 5}, new int[] {5, 3});
        Check.refused("36 as many rows for both", even, even::winner, NONE_SUCH);
        even.put(2, 5, 0);
        Check.due("36 one row more", even::winner, 5);
        ToplistHouse last = Houses.votes(new int[] {1, 0, 2}, new int[] {2, 1, 0}, new int[] {1, 2, 0});
        Check.due("36 beats all others", last::winner, 1);
    }

    private static void ring() {
        Check.due("37 none", () -> Houses.votes(new int[] {0, 1, 2, 3, 4, 5}).ring(), ToplistHouse.NONE);
        Check.due("37 empty", () -> Houses.empty().ring(), ToplistHouse.NONE);
        ToplistHouse even = Houses.votes(new int[] {3, 5}, new int[] {5, 3});
        Check.due("37 two that are even", even::ring, ToplistHouse.NONE);
        ToplistHouse three = Houses.votes(new int[] {9, 4, 7}, new int[] {4, 7, 9}, new int[] {7, 9, 4});
        Check.due("37 of three", three::ring, 3);
        three.put(3, 9, 1);
        three.put(4, 9, 1);
        Check.due("37 no more", three::ring, ToplistHouse.NONE);
    }

    private static void longRings() {
        isRing(4, Houses.votes(new int[] {0, 1, 2, 3}, new int[] {1, 2, 3, 0}, new int[] {2, 3, 0, 1},
                new int[] {3, 0, 1, 2}));
        isRing(5, Houses.votes(new int[] {0, 1}, new int[] {1, 2}, new int[] {2, 3}, new int[] {3, 4},
                new int[] {4, 0}));
        isRing(6, Houses.votes(new int[] {1, 2, 5}, new int[] {0, 1, 4}, new int[] {5, 0}, new int[] {2, 3, 4},
                new int[] {3, 4, 5}));
    }

    /** Here each of n candidates must beat the next one alone, and the last one the first one alone. */
    private static void isRing(int n, ToplistHouse house) {
        for (int one = 0; one < n; one++) {
            for (int other = 0; other < n; other++) {
                boolean beats = house.prefer(one, other) > house.prefer(other, one);
                Check.isTrue("37 ring of " + n + ", " + one + " and " + other, beats == (other == (one + 1) % n));
            }
        }
        Check.due("37 ring of " + n, house::ring, n);
        Check.refused("36 ring of " + n, house, house::winner, NONE_SUCH);
    }

    private static void leastOrder() {
        ToplistHouse empty = Houses.empty();
        Check.due("38 empty", empty::swaps, 0);
        Check.refused("39 empty", empty, () -> empty.orderAt(0), INDEX);
        Check.due("38 a single one", () -> Houses.of(1, 8, 1).swaps(), 0);
        Check.due("39 a single one", () -> Houses.of(1, 8, 1).orderAt(0), 8);
        Check.due("38 one row", () -> Houses.votes(new int[] {5, 3, 4, 0}).swaps(), 0);
        hasOrder(Houses.votes(new int[] {5, 3, 4, 0}), 5, 3, 4, 0);
        hasOrder(Houses.votes(new int[] {7, 3}, new int[] {7, 3}, new int[] {3, 7}), 7, 3);
        Check.due("38 one row of three",
                () -> Houses.votes(new int[] {7, 3}, new int[] {7, 3}, new int[] {3, 7}).swaps(), 1);
        ToplistHouse house = new ToplistHouse();
        for (int bad : new int[] {-1, 5, 6, 20, Integer.MIN_VALUE, Integer.MAX_VALUE}) {
            Check.refused("39 place " + bad, house, () -> house.orderAt(bad), INDEX);
        }
    }

    private static void leastOrderOfSeveral() {
        hasOrder(Houses.votes(new int[] {5, 3}, new int[] {3, 5}), 3, 5);
        // 4 7 9, 7 9 4 and 9 4 7 have 4 swaps each.
        ToplistHouse three = Houses.votes(new int[] {9, 4, 7}, new int[] {7, 9, 4}, new int[] {4, 7, 9});
        Check.due("38 a ring", three::swaps, 4);
        hasOrder(three, 4, 7, 9);
        ToplistHouse four = Houses.votes(new int[] {3, 0, 1, 2}, new int[] {1, 2, 3, 0}, new int[] {2, 3, 0, 1},
                new int[] {0, 1, 2, 3});
        Check.due("38 a ring of four", four::swaps, 10);
        hasOrder(four, 0, 1, 2, 3);
        // The one with an item is preferred to all the others, and these are even.
        hasOrder(Houses.of(2, 11, 0, 0, 4, 0, 1, 6, 0, 3, 11, 0), 11, 4, 6);
    }

    private static void hasOrder(ToplistHouse house, int... things) {
        for (int place = 0; place < things.length; place++) {
            int p = place;
            Check.due("39 place " + p, () -> house.orderAt(p), things[p]);
        }
        Check.refused("39 behind the last", house, () -> house.orderAt(things.length), INDEX);
    }
}
