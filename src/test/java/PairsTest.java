/** Promises 46 to 49: pairs and joins. */
public final class PairsTest {
    private static final String INDEX = "IndexOutOfBoundsException";
    private static final int[] BAD_ROW = {-1, 5, Integer.MIN_VALUE, Integer.MAX_VALUE};

    public static void main(String[] args) {
        pairs();
        pairsOfOneRow();
        pairsOfSameSums();
        allPairs();
        weightsDoNotMatter();
        common();
        commonAt();
        wrongArguments();
        Check.finish();
    }

    private static void hasPair(ToplistHouse house, int row, int other, int rank, int[] pair) {
        String what = row + " and " + other + ", rank " + rank;
        Check.due("46 " + what, () -> house.pairSum(row, other, rank), pair[0]);
        Check.due("47 first of " + what, () -> house.pairPlace(row, other, rank, false), pair[1]);
        Check.due("47 second of " + what, () -> house.pairPlace(row, other, rank, true), pair[2]);
    }

    private static void pairs() {
        ToplistHouse house = new ToplistHouse();
        // Row 0: 90 80 70 10; row 1: 85 75 20.
        int[][] pairs = {{175, 0, 0}, {165, 0, 1}, {165, 1, 0}, {155, 1, 1}, {155, 2, 0}, {145, 2, 1}, {110, 0, 2},
            {100, 1, 2}, {95, 3, 0}, {90, 2, 2}, {85, 3, 1}, {30, 3, 2}};
        for (int rank = 0; rank < pairs.length; rank++) {
            hasPair(house, 0, 1, rank, pairs[rank]);
        }
        // The other way round the first row's places come first.
        hasPair(house, 1, 0, 1, new int[] {165, 0, 1});
        hasPair(house, 1, 0, 2, new int[] {165, 1, 0});
        Check.refused("46 rank 12", house, () -> house.pairSum(0, 1, 12), INDEX);
        Check.refused("47 rank 12", house, () -> house.pairPlace(0, 1, 12, true), INDEX);
        Check.refused("46 an empty row", house, () -> house.pairSum(0, 3, 0), INDEX);
        Check.refused("47 an empty row", house, () -> house.pairPlace(4, 0, 0, false), INDEX);
    }

    private static void pairsOfOneRow() {
        ToplistHouse house = new ToplistHouse();
        // Row 2: 95 60 50.
        int[][] pairs = {{190, 0, 0}, {155, 0, 1}, {155, 1, 0}, {145, 0, 2}, {145, 2, 0}, {120, 1, 1}, {110, 1, 2},
            {110, 2, 1}, {100, 2, 2}};
        for (int rank = 0; rank < pairs.length; rank++) {
            hasPair(house, 2, 2, rank, pairs[rank]);
        }
        Check.refused("46 rank 9", house, () -> house.pairSum(2, 2, 9), INDEX);
        Check.refused("47 rank 9", house, () -> house.pairPlace(2, 2, 9, false), INDEX);
        hasPair(Houses.of(4, 19, 99), 4, 4, 0, new int[] {198, 0, 0});
        hasPair(Houses.of(4, 19, 0), 4, 4, 0, new int[] {0, 0, 0});
        ToplistHouse least = Houses.of(4, 19, 5, 4, 3, 0);
        hasPair(least, 4, 4, 0, new int[] {10, 0, 0});
        hasPair(least, 4, 4, 3, new int[] {0, 1, 1});
    }

    private static void pairsOfSameSums() {
        ToplistHouse house = Houses.of(0, 3, 7, 0, 5, 7, 0, 9, 6, 1, 0, 5, 1, 1, 5, 1, 2, 6);
        // Row 0: 7 7 6; row 1: 6 5 5.
        int[][] pairs = {{13, 0, 0}, {13, 1, 0}, {12, 0, 1}, {12, 0, 2}, {12, 1, 1}, {12, 1, 2}, {12, 2, 0},
            {11, 2, 1}, {11, 2, 2}};
        for (int rank = 0; rank < pairs.length; rank++) {
            hasPair(house, 0, 1, rank, pairs[rank]);
        }
    }

    private static void allPairs() {
        ToplistHouse house = Houses.full();
        hasPair(house, 0, 4, 0, new int[] {156, 0, 0});
        hasPair(house, 0, 4, 1, new int[] {152, 0, 1});
        hasPair(house, 0, 4, 2, new int[] {152, 1, 0});
        hasPair(house, 0, 4, 399, new int[] {4, 19, 19});
        Check.due("46 rank 400", () -> house.pairSum(0, 4, 400), "throws " + INDEX);
        Check.due("47 rank 400", () -> house.pairPlace(0, 4, 400, true), "throws " + INDEX);
    }

    private static void weightsDoNotMatter() {
        ToplistHouse house = new ToplistHouse();
        house.setWeight(0, 0);
        house.setWeight(1, 5);
        hasPair(house, 0, 1, 1, new int[] {165, 0, 1});
        Check.due("48 weights do not matter", () -> house.common(0, 1), 3);
    }

    private static void common() {
        ToplistHouse house = new ToplistHouse();
        Check.due("48 0 and 1", () -> house.common(0, 1), 3);
        Check.due("48 2 and 0", () -> house.common(2, 0), 2);
        Check.due("48 the same row", () -> house.common(0, 0), 4);
        Check.due("48 an empty row", () -> house.common(0, 3), 0);
        Check.due("48 none in both", () -> Houses.of(0, 1, 5, 1, 2, 5).common(0, 1), 0);
        Check.due("48 full", () -> Houses.full().common(1, 3), 20);
    }

    private static void commonAt() {
        ToplistHouse house = new ToplistHouse();
        for (int place = 0; place < 3; place++) {
            int p = place;
            Check.due("49 by things, not by marks, " + p, () -> house.commonAt(0, 1, p), p);
            Check.due("49 turned, " + p, () -> house.commonAt(1, 0, p), p);
        }
        Check.due("49 not all things", () -> house.commonAt(0, 2, 1), 2);
        Check.due("49 the same row", () -> house.commonAt(2, 2, 2), 4);
        Check.due("49 full", () -> Houses.full().commonAt(0, 4, 19), 19);
        Check.refused("49 not so many", house, () -> house.commonAt(0, 1, 3), INDEX);
        Check.refused("49 none", house, () -> house.commonAt(3, 4, 0), INDEX);
        for (int bad : new int[] {-1, 20, Integer.MIN_VALUE, Integer.MAX_VALUE}) {
            Check.refused("49 place " + bad, house, () -> house.commonAt(0, 0, bad), INDEX);
        }
    }

    private static void wrongArguments() {
        ToplistHouse house = new ToplistHouse();
        for (int bad : BAD_ROW) {
            Check.refused("46 row " + bad, house, () -> house.pairSum(bad, 0, 0), INDEX);
            Check.refused("46 other " + bad, house, () -> house.pairSum(0, bad, 0), INDEX);
            Check.refused("47 row " + bad, house, () -> house.pairPlace(bad, 0, 0, true), INDEX);
            Check.refused("47 other " + bad, house, () -> house.pairPlace(0, bad, 0, false), INDEX);
            Check.refused("48 row " + bad, house, () -> house.common(bad, 0), INDEX);
            Check.refused("48 other " + bad, house, () -> house.common(0, bad), INDEX);
            Check.refused("49 row " + bad, house, () -> house.commonAt(bad, 0, 0), INDEX);
            Check.refused("49 other " + bad, house, () -> house.commonAt(0, bad, 0), INDEX);
        }
        for (int bad : new int[] {-1, Integer.MIN_VALUE, Integer.MAX_VALUE}) {
            Check.refused("46 rank " + bad, house, () -> house.pairSum(0, 1, bad), INDEX);
            Check.refused("47 rank " + bad, house, () -> house.pairPlace(0, 1, bad, true), INDEX);
        }
    }
}
