/** Reading at its edges: the first and the last depth, the last marks, when k is enough, and when it is not. */
public final class ReadingEdgesTest {
    private static final String INDEX = "throws IndexOutOfBoundsException";
    private static final String NONE_SUCH = "throws NoSuchElementException";

    public static void main(String[] args) {
        lastMarksAtTheEndsOfRows();
        readAtTheNextDepth();
        depthOfNothing();
        limitReachedBySum();
        limitReachedByLeast();
        limitReachedByGreatest();
        limitReachedByTheSecond();
        tooFewThingsRead();
        allItemsRead();
        moreThanAllThings();
        answerUpToK();
        readsAndAsks();
        refuteUpToTheStop();
        refuteTheLastThing();
        lowerBoundsThatAreEnough();
        limitForLowerBounds();
        asManyThingsAsRead();
        neverLessDeepWithoutAsking();
        holdsUpToK();
        Check.finish();
    }

    /** A house without weights but for the first rows. */
    private static ToplistHouse weighed(ToplistHouse house, int rows) {
        for (int row = rows; row < 5; row++) {
            house.setWeight(row, 0);
        }
        return house;
    }

    /** "it is 0 if the row has d - 1 items or fewer": the last item still counts, one deeper it does not. */
    private static void lastMarksAtTheEndsOfRows() {
        ToplistHouse one = Houses.of(4, 19, 7);
        Check.due("18 a row of one", () -> one.limit(1), 7);
        Check.due("18 behind a row of one", () -> one.limit(2), 0);
        Check.due("24 a row of one", () -> one.upper(0, 1), 7);
        Check.due("24 behind a row of one", () -> one.upper(0, 2), 0);
        ToplistHouse full = Houses.oneRow(3);
        for (int depth = 1; depth <= 20; depth++) {
            int d = depth;
            Check.due("18 a full row, depth " + d, () -> full.limit(d), 100 - d);
        }
        full.drop(3, 19);
        Check.due("18 the last of 19", () -> full.limit(19), 81);
        Check.due("18 behind the last of 19", () -> full.limit(20), 0);
        full.setWeight(3, 5);
        Check.due("18 times the weight", () -> full.limit(19), 405);
        full.setWeight(3, 0);
        Check.due("18 times no weight", () -> full.limit(1), 0);
        ToplistHouse house = new ToplistHouse();
        Check.due("18 three rows", () -> house.limit(3), 70 + 20 + 50);
        Check.due("18 two of them at their ends", () -> house.limit(4), 10);
        Check.due("18 all at their ends", () -> house.limit(5), 0);
        house.setRule(ToplistHouse.LEAST);
        weighed(house, 3);
        Check.due("18 the least of three rows", () -> house.limit(3), 20);
        Check.due("18 the least with rows at their ends", () -> house.limit(4), 0);
        house.setRule(ToplistHouse.GREATEST);
        Check.due("18 the greatest with rows at their ends", () -> house.limit(4), 10);
    }

    /** "the items of all rows at places less than d have been read": not the item at the place d. */
    private static void readAtTheNextDepth() {
        ToplistHouse house = new ToplistHouse();
        Check.due("23 at the depth of its place", () -> house.lower(3, 3), 0);
        Check.due("23 one deeper", () -> house.lower(3, 4), 10);
        Check.due("24 at the depth of its place", () -> house.upper(3, 3), 70 + 20 + 50);
        Check.due("24 one deeper", () -> house.upper(3, 4), 10);
        ToplistHouse full = Houses.oneRow(0);
        Check.due("23 the last place, not read", () -> full.lower(19, 19), 0);
        Check.due("23 the last place, read", () -> full.lower(19, 20), 80);
        Check.due("24 the last place, not read", () -> full.upper(19, 19), 81);
        Check.due("24 the last place, read", () -> full.upper(19, 20), 80);
        Check.due("23 the first place", () -> full.lower(0, 1), 99);
    }

    /** "the last mark ... is endless at the depth 0": it never stops there, unless there are no items. */
    private static void depthOfNothing() {
        ToplistHouse house = Houses.of(0, 5, 0);
        for (int rule = ToplistHouse.SUM; rule <= ToplistHouse.GREATEST; rule++) {
            house.setRule(rule);
            for (int k = 1; k <= 20; k++) {
                int number = k;
                Check.due("19 not at the depth 0, k " + k, () -> house.stopDepth(number), 1);
                Check.due("25 not at the depth 0, k " + k, () -> house.plainDepth(number), 1);
                Check.due("22 nothing was read, k " + k, () -> house.refute(number, 0), 0);
                Check.due("22 all was read, k " + k, () -> house.refute(number, 1), NONE_SUCH);
            }
        }
        house.drop(0, 5);
        Check.due("19 at the depth 0", () -> house.stopDepth(1), 0);
        Check.due("25 at the depth 0", () -> house.plainDepth(1), 0);
    }

    /** "the k-th best of their values is not less than the limit": just as much is enough, 1 less is not. */
    private static void limitReachedBySum() {
        ToplistHouse house = Houses.of(0, 0, 50, 1, 0, 50, 0, 1, 40, 1, 1, 40);
        Check.due("18 as much as thing 0", () -> house.limit(1), 100);
        Check.due("19 as much", () -> house.stopDepth(1), 1);
        house.put(4, 7, 1);
        Check.due("18 one more", () -> house.limit(1), 101);
        Check.due("19 one less", () -> house.stopDepth(1), 2);
        house.put(3, 0, 1);
        house.setWeight(3, 2);
        Check.due("14 two more", () -> house.value(0), 102);
        Check.due("18 two more", () -> house.limit(1), 103);
        Check.due("19 one less again", () -> house.stopDepth(1), 2);
    }

    private static void limitReachedByLeast() {
        ToplistHouse house = weighed(Houses.of(0, 0, 50, 0, 1, 40, 0, 2, 1, 1, 1, 60, 1, 0, 50, 1, 2, 1), 2);
        house.setRule(ToplistHouse.LEAST);
        Check.due("18 the least of 50 and 60", () -> house.limit(1), 50);
        Check.due("19 as much", () -> house.stopDepth(1), 1);
        house.put(1, 0, 49);
        Check.due("19 one less", () -> house.stopDepth(1), 2);
        Check.due("21 it is the best all the same", () -> house.best(1, 0), 0);
    }

    private static void limitReachedByGreatest() {
        ToplistHouse house = Houses.of(0, 0, 50, 0, 1, 40, 1, 2, 50, 1, 3, 40);
        house.setRule(ToplistHouse.GREATEST);
        Check.due("19 both as much", () -> house.stopDepth(2), 1);
        house.put(1, 2, 49);
        Check.due("19 the second one less", () -> house.stopDepth(2), 2);
        Check.due("19 the first one as much", () -> house.stopDepth(1), 1);
    }

    private static void limitReachedByTheSecond() {
        // Row 0: 0, 1, 2; row 1: 3, 4. The depth 2 has the limit 40 + 0, and thing 1 has 40.
        ToplistHouse house = Houses.of(0, 0, 50, 0, 1, 40, 0, 2, 30, 1, 3, 1, 1, 4, 0);
        Check.due("19 the second as much", () -> house.stopDepth(2), 2);
        house.put(1, 4, 1);
        Check.due("19 the second one less", () -> house.stopDepth(2), 3);
        Check.due("19 the first far more", () -> house.stopDepth(1), 2);
    }

    /** "at least k things have been read": values that reach the limit do not make up for it. */
    private static void tooFewThingsRead() {
        ToplistHouse house = weighed(Houses.oneRow(0), 0);
        for (int k = 1; k <= 20; k++) {
            int number = k;
            Check.due("19 all limits 0, one thing a depth, k " + k, () -> house.stopDepth(number), number);
            Check.due("25 all limits 0, one thing a depth, k " + k, () -> house.plainDepth(number), number);
        }
        // The same three things are the first of three rows, in another order in each.
        ToplistHouse same = Houses.of(0, 0, 99, 0, 1, 98, 0, 2, 97, 0, 3, 1, 1, 1, 99, 1, 2, 98, 1, 0, 97, 2, 2, 99,
                2, 0, 98, 2, 1, 97);
        Check.due("18 each of the three has 294", () -> same.limit(2), 294);
        Check.due("19 three things at the depth 1, but a limit of 297", () -> same.stopDepth(3), 2);
        Check.due("19 no fourth thing ahead of the depth 4", () -> same.stopDepth(4), 4);
    }

    /** "or at which all items of all rows have been read": as deep as the longest row, and no deeper. */
    private static void allItemsRead() {
        for (int longest = 1; longest <= 20; longest++) {
            ToplistHouse house = Houses.of(1, 0, 99);
            for (int thing = 0; thing < longest; thing++) {
                house.put(4, thing, 99 - thing);
            }
            int due = longest;
            Check.due("19 all of the longest row, " + longest, () -> house.stopDepth(20), due);
            Check.due("25 all of the longest row, " + longest, () -> house.plainDepth(20), due);
            Check.due("20 all of the longest row, " + longest, () -> house.cost(20), due + 1 + 4 * due);
            Check.due("26 all of the longest row, " + longest, () -> house.plainCost(20), due + 1);
        }
    }

    /** "The answer is the first k ..., or all of them." */
    private static void moreThanAllThings() {
        ToplistHouse house = new ToplistHouse();
        int[] things = {2, 0, 1, 4, 3};
        for (int k = 5; k <= 20; k++) {
            int number = k;
            Check.due("19 as many as are known, or more, k " + k, () -> house.stopDepth(number), 4);
            for (int rank = 0; rank < 5; rank++) {
                int r = rank;
                Check.due("21 all of them, k " + k + ", rank " + r, () -> house.best(number, r), things[r]);
            }
            Check.due("21 no more than all, k " + k, () -> house.best(number, 5), INDEX);
            Check.due("20 all of them, k " + k, () -> house.cost(number), 30);
            Check.due("25 all of them, k " + k, () -> house.plainDepth(number), 4);
        }
    }

    private static void answerUpToK() {
        ToplistHouse house = new ToplistHouse();
        for (int k = 1; k <= 4; k++) {
            int number = k;
            Check.due("21 the last of k " + k, () -> house.best(number, number - 1), new int[] {2, 0, 1, 4}[k - 1]);
            Check.due("21 behind k " + k + ", though more were read", () -> house.best(number, number), INDEX);
        }
    }

    /** "four for each thing that has been read", however many of its items were; reads only of items there are. */
    private static void readsAndAsks() {
        ToplistHouse house = Houses.of(0, 0, 9, 1, 0, 9, 2, 0, 9, 3, 0, 9, 4, 0, 9);
        Check.due("20 five items of one thing", () -> house.cost(1), 5 + 4);
        Check.due("26 five items of one thing", () -> house.plainCost(1), 5);
        ToplistHouse apart = Houses.of(0, 0, 9, 1, 1, 9, 2, 2, 9, 3, 3, 9, 4, 4, 9);
        Check.due("20 five items of five things", () -> apart.cost(1), 5 + 20);
        Check.due("26 five items of five things", () -> apart.plainCost(1), 5);
        ToplistHouse one = Houses.of(2, 19, 0);
        one.setCosts(0, 1);
        Check.due("20 asks alone", () -> one.cost(20), 4);
        Check.due("26 no asks", () -> one.plainCost(20), 0);
        one.setCosts(1, 0);
        Check.due("20 reads alone", () -> one.cost(20), 1);
        ToplistHouse uneven = Houses.oneRow(0);
        uneven.put(1, 0, 0);
        Check.due("20 a row that ended at the depth 1", () -> uneven.cost(20), 21 + 80);
    }

    /** "Throws ... if the depth is not less than stopDepth(k)". */
    private static void refuteUpToTheStop() {
        ToplistHouse house = new ToplistHouse();
        int[] stops = {2, 3, 3, 4, 4};
        for (int k = 1; k <= 5; k++) {
            for (int depth = 0; depth <= 20; depth++) {
                int number = k;
                int d = depth;
                Object due = depth >= stops[k - 1] ? NONE_SUCH : depth == 0 ? 0 : (Object) 3;
                Check.due("22 k " + k + ", depth " + depth, () -> house.refute(number, d), due);
            }
        }
    }

    /** "or all 20 things have been read": with 19 of them the last one is the answer. */
    private static void refuteTheLastThing() {
        ToplistHouse house = Houses.oneRow(4);
        for (int depth = 0; depth < 20; depth++) {
            int d = depth;
            Check.due("22 one row, depth " + d, () -> house.refute(20, d), d);
        }
        Check.due("22 one row, all read", () -> house.refute(20, 20), NONE_SUCH);
        // With these in row 3 all 20 things have been read at the depth 17, but thing 19 has 80 alone.
        house.put(3, 17, 0);
        house.put(3, 18, 0);
        house.put(3, 19, 0);
        Check.due("19 the last item of row 4", () -> house.stopDepth(20), 20);
        Check.due("22 thing 3 at the depth 3", () -> house.refute(20, 3), 3);
        Check.due("22 thing 16 at the depth 16", () -> house.refute(20, 16), 16);
        Check.due("22 none at the depth 17", () -> house.refute(20, 17), NONE_SUCH);
        Check.due("22 none at the depth 19", () -> house.refute(20, 19), NONE_SUCH);
        ToplistHouse two = twoRowsOfHalves();
        Check.due("19 two rows", () -> two.stopDepth(20), 11);
        Check.due("22 two rows, two things less", () -> two.refute(20, 9), 9);
        Check.due("22 two rows, all 20 read, but not yet at the stop", () -> two.refute(20, 10), NONE_SUCH);
        two.drop(1, 19);
        two.drop(0, 19);
        Check.due("22 two rows, 19 read", () -> two.refute(20, 10), 19);
    }

    /** Row 0 begins with the things 0 to 9, row 1 with 10 to 19: marks of 90 and less, then of 50 and less. */
    private static ToplistHouse twoRowsOfHalves() {
        ToplistHouse house = Houses.empty();
        for (int thing = 0; thing < 20; thing++) {
            house.put(0, thing, thing < 10 ? 90 - thing : 50 - thing);
            house.put(1, thing, thing < 10 ? 50 - thing : 90 - thing);
        }
        return house;
    }

    /** "whose lower bounds are not less than the upper bounds of all other things": as much is enough. */
    private static void lowerBoundsThatAreEnough() {
        // Depth 2: thing 0 has 50 to 60, thing 1 has 20 + 30 for sure, thing 3 has 10 to 40; the limit is 40.
        ToplistHouse house = Houses.of(0, 0, 50, 0, 1, 30, 0, 2, 10, 1, 1, 20, 1, 3, 10);
        Check.due("23 thing 0", () -> house.lower(0, 2), 50);
        Check.due("24 thing 0", () -> house.upper(0, 2), 60);
        Check.due("23 thing 1", () -> house.lower(1, 2), 50);
        Check.due("24 thing 1", () -> house.upper(1, 2), 50);
        Check.due("25 as much as the other one", () -> house.plainDepth(1), 2);
        house.put(0, 1, 31);
        Check.due("25 one less than the other one, which may be less itself", () -> house.plainDepth(1), 3);
        Check.due("25 but both are ahead of the third", () -> house.plainDepth(2), 2);
    }

    /** "nor than the limit": as much is enough, 1 less is not. */
    private static void limitForLowerBounds() {
        ToplistHouse house = Houses.of(0, 0, 50, 1, 0, 30, 0, 1, 20, 1, 1, 20, 0, 2, 0);
        Check.due("18 the limit of the depth 1", () -> house.limit(1), 80);
        Check.due("25 as much as the limit", () -> house.plainDepth(1), 1);
        house.put(2, 5, 1);
        Check.due("25 one less than the limit", () -> house.plainDepth(1), 2);
        // With the rule LEAST a thing counts 0 as long as one of its items was not read.
        ToplistHouse least = weighed(Houses.of(0, 0, 50, 0, 1, 10, 1, 1, 50, 1, 0, 50, 0, 2, 5, 1, 2, 5), 2);
        least.setRule(ToplistHouse.LEAST);
        Check.due("13 the lesser thing first in row 1", () -> least.placeOf(1, 0), 0);
        Check.due("25 LEAST, read in both rows", () -> least.plainDepth(1), 1);
        least.put(1, 0, 49);
        Check.due("25 LEAST, read in one row", () -> least.plainDepth(1), 2);
        Check.due("19 LEAST, asked", () -> least.stopDepth(1), 2);
        least.put(0, 0, 49);
        Check.due("19 LEAST, asked, as much as the limit", () -> least.stopDepth(1), 1);
        Check.due("25 LEAST, without asking", () -> least.plainDepth(1), 2);
    }

    /** "there are k things that have been read": all that were read are k things, too; one more is not there. */
    private static void asManyThingsAsRead() {
        ToplistHouse house = Houses.of(0, 0, 50, 0, 1, 50, 1, 2, 50, 1, 3, 50);
        house.setRule(ToplistHouse.GREATEST);
        Check.due("25 two were read", () -> house.plainDepth(2), 1);
        Check.due("25 no third one was read", () -> house.plainDepth(3), 2);
        Check.due("19 two were read", () -> house.stopDepth(2), 1);
        Check.due("19 no third one was read", () -> house.stopDepth(3), 2);
        Check.due("25 more than there are", () -> house.plainDepth(5), 2);
    }

    /** "never less than stopDepth(k)". */
    private static void neverLessDeepWithoutAsking() {
        ToplistHouse[] houses = {new ToplistHouse(), Houses.lived(), Houses.full(), Houses.alike(7), Houses.oneRow(1),
            twoRowsOfHalves(), Houses.empty()};
        for (ToplistHouse house : houses) {
            for (int rule = ToplistHouse.SUM; rule <= ToplistHouse.GREATEST; rule++) {
                house.setRule(rule);
                for (int k = 1; k <= 20; k++) {
                    int number = k;
                    Check.isTrue("25 k " + k, house.plainDepth(number) >= house.stopDepth(number));
                }
                Check.due("52 rule " + rule, house::errors, 0);
            }
        }
    }

    /** "the first k things of the ranking (or all, if there are fewer), in their order". */
    private static void holdsUpToK() {
        // 2 has 240, 0 has 170, 1 has 165, 4 has 50, 3 has 10; with 41 more 3 is ahead of 4.
        ToplistHouse house = new ToplistHouse();
        Check.due("27 as much as 4, a lesser thing", () -> house.holds(3, 3, 3, 40), true);
        Check.due("27 its place is within k", () -> house.holds(4, 3, 3, 40), false);
        Check.due("27 one less", () -> house.holds(20, 3, 3, 39), true);
        Check.due("27 fewer than k, none more", () -> house.holds(20, 3, 2, 99), true);
        Check.due("27 fewer than k, one more", () -> house.holds(20, 3, 5, 0), false);
        Check.due("27 just all, one more behind them", () -> house.holds(5, 3, 5, 0), true);
        Check.due("27 just all, one more ahead of the last", () -> house.holds(5, 3, 5, 11), false);
        Check.due("27 one more of the value of the last, a greater thing", () -> house.holds(5, 3, 5, 10), true);
        Check.due("27 first of no things", () -> Houses.empty().holds(20, 0, 0, 0), false);
    }
}
