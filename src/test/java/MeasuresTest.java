/** Promises 50 to 52: measures and the second way. */
public final class MeasuresTest {
    public static void main(String[] args) {
        meanMark();
        fill();
        errors();
        Check.finish();
    }

    private static void meanMark() {
        Check.due("50 new house", () -> new ToplistHouse().meanMark(), 63.5);
        Check.due("50 no items", () -> Houses.empty().meanMark(), 0.0);
        Check.due("50 marks of 0", () -> Houses.of(0, 0, 0, 1, 0, 0).meanMark(), 0.0);
        Check.due("50 no whole number", () -> Houses.of(0, 0, 1, 4, 19, 0, 3, 7, 1).meanMark(), 2.0 / 3.0);
        Check.due("50 a single one", () -> Houses.of(4, 19, 99).meanMark(), 99.0);
        Check.due("50 full", () -> Houses.full().meanMark(), 40.0);
        ToplistHouse house = new ToplistHouse();
        house.setWeight(0, 0);
        house.setWeight(2, 5);
        Check.due("50 without weights", house::meanMark, 63.5);
    }

    private static void fill() {
        Check.due("51 new house", () -> new ToplistHouse().fill(), 0.1f);
        Check.due("51 no items", () -> Houses.empty().fill(), 0.0f);
        Check.due("51 one", () -> Houses.of(4, 19, 0).fill(), 0.01f);
        Check.due("51 full", () -> Houses.full().fill(), 1.0f);
        ToplistHouse house = Houses.full();
        for (int thing = 0; thing < 20; thing++) {
            int left = 99 - thing;
            house.drop(2, thing);
            Check.due("51 " + left, house::fill, (float) left / 100.0f);
        }
    }

    private static void errors() {
        Check.due("52 new house", () -> new ToplistHouse().errors(), 0);
        Check.due("52 no items", () -> Houses.empty().errors(), 0);
        Check.due("52 full", () -> Houses.full().errors(), 0);
        ToplistHouse house = Houses.full();
        for (int rule = ToplistHouse.SUM; rule <= ToplistHouse.GREATEST; rule++) {
            house.setRule(rule);
            for (int thing = 0; thing < 20; thing++) {
                house.put(thing % 5, thing, thing * 37 % 100);
                house.put(thing * 3 % 5, 19 - thing, 50);
                house.setWeight(thing % 5, thing % 6);
                Check.due("52 rule " + rule + ", change " + thing, house::errors, 0);
            }
        }
    }
}
