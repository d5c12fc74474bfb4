/**
 * Too small and too large: for each argument of each call the last values that are allowed, with what is due there,
 * and those beyond them, which the call refuses and which leave no trace.
 */
public final class ArgumentEdgesTest {
    private static final String INDEX = "IndexOutOfBoundsException";
    private static final String ARGUMENT = "IllegalArgumentException";
    private static final String NONE_SUCH = "throws NoSuchElementException";

    private static final Twins.Maker NEW = ToplistHouse::new;
    private static final Twins.Maker FULL = Houses::full;
    private static final Twins.Maker ONE_ROW = () -> Houses.oneRow(0);
    private static final Twins.Maker CORNERS = () -> Houses.of(0, 0, 5, 0, 19, 6, 4, 0, 7, 4, 19, 8);

    public static void main(String[] args) {
        put();
        drop();
        weightAndRule();
        costs();
        windowAndCounters();
        push();
        rows();
        values();
        depthsAndNumbersOfThings();
        best();
        refute();
        bounds();
        holds();
        merging();
        votes();
        numbersThatCameBy();
        pairs();
        joins();
        Check.finish();
    }

    private static void put() {
        Argument.of("2 row", NEW, (h, n) -> h.put(n, 0, 7) + " " + h.markAt(n, h.placeOf(n, 0)))
                .answers(0, "90 7").answers(4, "-1 7").refuses(INDEX, 0, 4);
        Argument.of("2 thing", NEW, (h, n) -> h.put(0, n, 7) + " " + h.markAt(0, h.placeOf(0, n)))
                .answers(0, "90 7").answers(19, "-1 7").refuses(INDEX, 0, 19);
        Argument.of("2 mark", NEW, (h, n) -> h.put(0, 0, n) + " " + h.markAt(0, h.placeOf(0, 0)))
                .answers(0, "90 0").answers(99, "90 99").refuses(ARGUMENT, 0, 99);
        Argument.of("2 mark of a new item", NEW, (h, n) -> h.put(4, 19, n) + " " + h.markAt(4, 0))
                .answers(0, "-1 0").answers(99, "-1 99").refuses(ARGUMENT, 0, 99);
    }

    private static void drop() {
        Argument.of("3 row", CORNERS, (h, n) -> h.drop(n, 0) + " " + h.itemCount(n))
                .answers(0, "5 1").answers(4, "7 1").answers(3, NONE_SUCH).refuses(INDEX, 0, 4);
        Argument.of("3 thing", CORNERS, (h, n) -> h.drop(4, n) + " " + h.itemCount(4))
                .answers(0, "7 1").answers(19, "8 1").answers(18, NONE_SUCH).refuses(INDEX, 0, 19);
    }

    private static void weightAndRule() {
        Argument.of("4 row", NEW, (h, n) -> h.setWeight(n, 5) + " " + h.setWeight(n, 1))
                .answers(0, "1 5").answers(4, "1 5").refuses(INDEX, 0, 4);
        Argument.of("4 weight", NEW, (h, n) -> h.setWeight(0, n) + " " + h.value(0))
                .answers(0, "1 80").answers(5, "1 530").refuses(ARGUMENT, 0, 5);
        // The values of thing 0 are 90 + 20 + 60, the least of these and of two empty rows, and the greatest of them.
        Argument.of("5 rule", NEW, (h, n) -> h.setRule(n) + " " + h.value(0) + " " + h.setRule(0))
                .answers(0, "0 170 0").answers(1, "0 0 1").answers(2, "0 90 2").refuses(ARGUMENT, 0, 2);
    }

    private static void costs() {
        // Reading for k = 1 makes 6 reads and 12 asks.
        Argument.of("6 read", NEW, (h, n) -> h.setCosts(n, 1) + " " + h.cost(1) + " " + h.setCosts(0, 0))
                .answers(0, "101 12 1").answers(99, "101 606 9901").refuses(ARGUMENT, 0, 99);
        Argument.of("6 ask", NEW, (h, n) -> h.setCosts(1, n) + " " + h.cost(1) + " " + h.setCosts(0, 0))
                .answers(0, "101 6 100").answers(99, "101 1194 199").refuses(ARGUMENT, 0, 99);
    }

    private static void windowAndCounters() {
        Argument.of("7 width", NEW, (h, n) -> h.setWindow(n, 1) + " " + pushesUntilOneLeaves(h))
                .answers(1, "0 2").answers(10, "0 11").refuses(ARGUMENT, 1, 10);
        Argument.of("7 counters", NEW, (h, n) -> h.setWindow(1, n) + " " + pushesUntilAllCountLess(h))
                .answers(1, "0 2").answers(4, "0 5").refuses(ARGUMENT, 1, 4);
    }

    private static int pushesUntilOneLeaves(ToplistHouse house) {
        int pushes = 1;
        while (house.push(pushes) == ToplistHouse.NONE && pushes < 50) {
            pushes++;
        }
        return pushes;
    }

    private static int pushesUntilAllCountLess(ToplistHouse house) {
        int pushes = 0;
        while (house.bound() == 0 && pushes < 50) {
            house.push(pushes);
            pushes++;
        }
        return pushes;
    }

    private static void push() {
        Argument.of("8 number", NEW, (h, n) -> h.push(n) + " " + h.windowAt(0) + " " + h.came(n))
                .answers(0, "-1 0 1").answers(99, "-1 99 1").refuses(ARGUMENT, 0, 99);
    }

    private static void rows() {
        Argument.of("10 row", NEW, (h, n) -> h.itemCount(n)).answers(0, 4).answers(4, 0).refuses(INDEX, 0, 4);
        // In the full house the row r has the thing 19 - p with the mark 76 + r - 4 p at its place p.
        Argument.of("11 row", FULL, (h, n) -> h.thingAt(n, 3)).answers(0, 16).answers(4, 16).refuses(INDEX, 0, 4);
        Argument.of("12 row", FULL, (h, n) -> h.markAt(n, 3)).answers(0, 64).answers(4, 68).refuses(INDEX, 0, 4);
        Argument.of("13 row", FULL, (h, n) -> h.placeOf(n, 3)).answers(0, 16).answers(4, 16).refuses(INDEX, 0, 4);
        Argument.of("11 place", NEW, (h, n) -> h.thingAt(0, n)).answers(0, 0).answers(3, 3).refuses(INDEX, 0, 3);
        Argument.of("12 place", NEW, (h, n) -> h.markAt(0, n)).answers(0, 90).answers(3, 10).refuses(INDEX, 0, 3);
        Argument.of("11 place of a full row", FULL, (h, n) -> h.thingAt(4, n))
                .answers(0, 19).answers(19, 0).refuses(INDEX, 0, 19);
        Argument.of("12 place of a full row", FULL, (h, n) -> h.markAt(4, n))
                .answers(0, 80).answers(19, 4).refuses(INDEX, 0, 19);
        Argument.of("13 thing", FULL, (h, n) -> h.placeOf(2, n)).answers(0, 19).answers(19, 0).refuses(INDEX, 0, 19);
        Argument.of("13 thing without items", NEW, (h, n) -> h.placeOf(0, n))
                .answers(0, 0).answers(19, NONE_SUCH).refuses(INDEX, 0, 19);
    }

    private static void values() {
        Argument.of("14 thing", NEW, (h, n) -> h.value(n)).answers(0, 170).answers(19, 0).refuses(INDEX, 0, 19);
        Argument.of("14 thing of a full house", FULL, (h, n) -> h.value(n))
                .answers(0, 10).answers(19, 390).refuses(INDEX, 0, 19);
        Argument.of("16 rank", NEW, (h, n) -> h.ranked(n)).answers(0, 2).answers(4, 3).refuses(INDEX, 0, 4);
        Argument.of("16 rank of a full house", FULL, (h, n) -> h.ranked(n))
                .answers(0, 19).answers(19, 0).refuses(INDEX, 0, 19);
        Argument.of("17 thing", NEW, (h, n) -> h.rankOf(n))
                .answers(0, 1).answers(19, NONE_SUCH).refuses(INDEX, 0, 19);
        Argument.of("17 thing of a full house", FULL, (h, n) -> h.rankOf(n))
                .answers(0, 19).answers(19, 0).refuses(INDEX, 0, 19);
    }

    private static void depthsAndNumbersOfThings() {
        // In the full house the depth d has read d things, the least with the value 410 - 20 d, as is the limit.
        Argument.of("18 depth", FULL, (h, n) -> h.limit(n)).answers(1, 390).answers(20, 10).refuses(ARGUMENT, 1, 20);
        Argument.of("18 depth, short rows", NEW, (h, n) -> h.limit(n))
                .answers(1, 270).answers(20, 0).refuses(ARGUMENT, 1, 20);
        Argument.of("19 k", FULL, (h, n) -> h.stopDepth(n)).answers(1, 1).answers(20, 20).refuses(ARGUMENT, 1, 20);
        Argument.of("20 k", FULL, (h, n) -> h.cost(n)).answers(1, 9).answers(20, 180).refuses(ARGUMENT, 1, 20);
        Argument.of("25 k", FULL, (h, n) -> h.plainDepth(n)).answers(1, 1).answers(20, 20).refuses(ARGUMENT, 1, 20);
        Argument.of("26 k", FULL, (h, n) -> h.plainCost(n)).answers(1, 5).answers(20, 100).refuses(ARGUMENT, 1, 20);
    }

    private static void best() {
        Argument.of("21 k", FULL, (h, n) -> h.best(n, 0)).answers(1, 19).answers(20, 19).refuses(ARGUMENT, 1, 20);
        Argument.of("21 rank", FULL, (h, n) -> h.best(20, n)).answers(0, 19).answers(19, 0).refuses(INDEX, 0, 19);
        Argument.of("21 rank for k 7", FULL, (h, n) -> h.best(7, n)).answers(0, 19).answers(6, 13).refuses(INDEX, 0, 6);
        Argument.of("21 rank for k 1", NEW, (h, n) -> h.best(1, n)).answers(0, 2).refuses(INDEX, 0, 0);
        Argument.of("21 rank, fewer things than k", NEW, (h, n) -> h.best(20, n))
                .answers(0, 2).answers(4, 3).refuses(INDEX, 0, 4);
    }

    private static void refute() {
        Argument.of("22 k", FULL, (h, n) -> h.refute(n, 0)).answers(1, 0).answers(20, 0).refuses(ARGUMENT, 1, 20);
        Argument.of("22 depth", ONE_ROW, (h, n) -> h.refute(20, n)).answers(0, 0).answers(19, 19)
                .answers(20, NONE_SUCH).refuses(ARGUMENT, 0, 20);
    }

    private static void bounds() {
        Argument.of("23 thing", FULL, (h, n) -> h.lower(n, 20)).answers(0, 10).answers(19, 390).refuses(INDEX, 0, 19);
        Argument.of("23 depth", FULL, (h, n) -> h.lower(0, n))
                .answers(1, 0).answers(19, 0).answers(20, 10).refuses(ARGUMENT, 1, 20);
        Argument.of("24 thing", FULL, (h, n) -> h.upper(n, 2)).answers(0, 370).answers(19, 390).refuses(INDEX, 0, 19);
        Argument.of("24 depth", FULL, (h, n) -> h.upper(0, n))
                .answers(1, 390).answers(19, 30).answers(20, 10).refuses(ARGUMENT, 1, 20);
    }

    private static void holds() {
        // With 99 instead of 0 the value of thing 0 is 109: behind thing 5, which has 110 and the rank 14.
        Argument.of("27 k", FULL, (h, n) -> h.holds(n, 0, 0, 99))
                .answers(1, true).answers(15, true).answers(16, false).answers(20, false).refuses(ARGUMENT, 1, 20);
        // Thing 0 has 170, thing 2 has 240. In row 0 it would lose, in row 4 it would win 71.
        Argument.of("27 row", NEW, (h, n) -> h.holds(1, n, 0, 71))
                .answers(0, true).answers(4, false).refuses(INDEX, 0, 4);
        Argument.of("27 thing", NEW, (h, n) -> h.holds(6, 3, n, 0))
                .answers(0, true).answers(19, false).refuses(INDEX, 0, 19);
        Argument.of("27 mark", NEW, (h, n) -> h.holds(1, 3, 0, n))
                .answers(0, true).answers(99, false).refuses(ARGUMENT, 0, 99);
    }

    private static void merging() {
        Argument.of("29 place", NEW, (h, n) -> h.mergedThing(n)).answers(0, 2).answers(9, 3).refuses(INDEX, 0, 9);
        Argument.of("30 place", NEW, (h, n) -> h.mergedRow(n)).answers(0, 2).answers(9, 0).refuses(INDEX, 0, 9);
        Argument.of("29 place of a full house", FULL, (h, n) -> h.mergedThing(n))
                .answers(0, 19).answers(99, 0).refuses(INDEX, 0, 99);
        Argument.of("30 place of a full house", FULL, (h, n) -> h.mergedRow(n))
                .answers(0, 4).answers(99, 0).refuses(INDEX, 0, 99);
        Argument.of("31 row", NEW, (h, n) -> h.comparisons(n, 2)).answers(0, 6).answers(4, 0).refuses(INDEX, 0, 4);
        Argument.of("31 other", NEW, (h, n) -> h.comparisons(2, n)).answers(0, 6).answers(4, 0).refuses(INDEX, 0, 4);
        Argument.of("33 thousandths", NEW, (h, n) -> h.quantile(n))
                .answers(0, 95).answers(1000, 10).refuses(ARGUMENT, 0, 1000);
        Argument.of("33 thousandths of a full house", FULL, (h, n) -> h.quantile(n))
                .answers(0, 80).answers(1000, 0).refuses(ARGUMENT, 0, 1000);
    }

    private static void votes() {
        Argument.of("35 thing", FULL, (h, n) -> h.prefer(n, 10)).answers(0, 0).answers(19, 5).refuses(INDEX, 0, 19);
        Argument.of("35 other", FULL, (h, n) -> h.prefer(10, n)).answers(0, 5).answers(19, 0).refuses(INDEX, 0, 19);
        Argument.of("39 place", NEW, (h, n) -> h.orderAt(n)).answers(0, 0).answers(4, 4).refuses(INDEX, 0, 4);
        Argument.of("39 place of a full house", FULL, (h, n) -> h.orderAt(n))
                .answers(0, 5).answers(5, 0).refuses(INDEX, 0, 5);
    }

    private static void numbersThatCameBy() {
        Twins.Maker few = () -> Houses.pushed(0, 99, 99);
        Argument.of("41 rank, fewer than the width", few, (h, n) -> h.windowAt(n))
                .answers(0, 99).answers(1, 99).answers(2, 0).refuses(INDEX, 0, 2);
        Twins.Maker many = () -> Houses.pushed(1, 2, 3, 4, 5, 6, 7);
        Argument.of("41 rank", many, (h, n) -> h.windowAt(n)).answers(0, 7).answers(4, 3).refuses(INDEX, 0, 4);
        Argument.of("43 number", few, (h, n) -> h.counted(n)).answers(0, 1).answers(99, 2).refuses(ARGUMENT, 0, 99);
        Argument.of("44 number", few, (h, n) -> h.came(n)).answers(0, 1).answers(99, 2).refuses(ARGUMENT, 0, 99);
    }

    private static void pairs() {
        // Full rows r and s: 76 + r + 76 + s at first, then 4 less at the places 0 and 1, then at 1 and 0.
        Argument.of("46 row", FULL, (h, n) -> h.pairSum(n, 2, 0)).answers(0, 154).answers(4, 158).refuses(INDEX, 0, 4);
        Argument.of("46 other", FULL, (h, n) -> h.pairSum(2, n, 0))
                .answers(0, 154).answers(4, 158).refuses(INDEX, 0, 4);
        Argument.of("47 row", FULL, (h, n) -> h.pairPlace(n, 2, 1, true))
                .answers(0, 1).answers(4, 1).refuses(INDEX, 0, 4);
        Argument.of("47 other", FULL, (h, n) -> h.pairPlace(2, n, 1, false))
                .answers(0, 0).answers(4, 0).refuses(INDEX, 0, 4);
        Argument.of("46 rank", NEW, (h, n) -> h.pairSum(0, 1, n)).answers(0, 175).answers(11, 30).refuses(INDEX, 0, 11);
        Argument.of("47 rank", NEW, (h, n) -> h.pairPlace(0, 1, n, false))
                .answers(0, 0).answers(11, 3).refuses(INDEX, 0, 11);
        Argument.of("47 rank, second", NEW, (h, n) -> h.pairPlace(0, 1, n, true))
                .answers(0, 0).answers(11, 2).refuses(INDEX, 0, 11);
        Argument.of("46 rank of full rows", FULL, (h, n) -> h.pairSum(0, 4, n))
                .answers(0, 156).answers(399, 4).refuses(INDEX, 0, 399);
        Argument.of("47 rank of full rows", FULL, (h, n) -> h.pairPlace(0, 4, n, false))
                .answers(0, 0).answers(399, 19).refuses(INDEX, 0, 399);
        Argument.of("47 rank of full rows, second", FULL, (h, n) -> h.pairPlace(0, 4, n, true))
                .answers(0, 0).answers(399, 19).refuses(INDEX, 0, 399);
    }

    private static void joins() {
        Argument.of("48 row", NEW, (h, n) -> h.common(n, 1)).answers(0, 3).answers(4, 0).refuses(INDEX, 0, 4);
        Argument.of("48 other", NEW, (h, n) -> h.common(1, n)).answers(0, 3).answers(4, 0).refuses(INDEX, 0, 4);
        Argument.of("49 row", FULL, (h, n) -> h.commonAt(n, 2, 7)).answers(0, 7).answers(4, 7).refuses(INDEX, 0, 4);
        Argument.of("49 other", FULL, (h, n) -> h.commonAt(2, n, 7)).answers(0, 7).answers(4, 7).refuses(INDEX, 0, 4);
        Argument.of("49 place", NEW, (h, n) -> h.commonAt(0, 2, n)).answers(0, 0).answers(1, 2).refuses(INDEX, 0, 1);
        Argument.of("49 place of full rows", FULL, (h, n) -> h.commonAt(0, 4, n))
                .answers(0, 0).answers(19, 19).refuses(INDEX, 0, 19);
    }
}
