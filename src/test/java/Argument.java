import java.util.Set;
import java.util.TreeSet;

/** One argument of a call, walked along its edges: what it answers at both ends, and what it refuses beyond them. */
final class Argument {
    interface Ask {
        Object of(ToplistHouse house, int argument);
    }

    private final String what;
    private final Twins.Maker maker;
    private final Ask ask;

    private Argument(String what, Twins.Maker maker, Ask ask) {
        this.what = what;
        this.maker = maker;
        this.ask = ask;
    }

    static Argument of(String what, Twins.Maker maker, Ask ask) {
        return new Argument(what, maker, ask);
    }

    /** On a new house each time, so that one answer does not lead to the next one. */
    Argument answers(int argument, Object due) {
        Check.due(what + " of " + argument, () -> ask.of(maker.make(), argument), due);
        return this;
    }

    void refuses(String exception, int least, int greatest) {
        String untouched = Twins.traces(maker, house -> "none");
        for (int bad : beyond(least, greatest)) {
            Twins.refused(what + " of " + bad, maker, exception, house -> ask.of(house, bad), untouched);
        }
    }

    /**
     * The first values that are not allowed, the least and the greatest int, and those that a shift, a byte, a
     * short or a sum would wrap into the range.
     */
    private static Set<Integer> beyond(int least, int greatest) {
        int[] values = {least - 1, greatest + 1, Integer.MIN_VALUE, Integer.MAX_VALUE, least + 32, least - 32,
            greatest + 256, least - 256, least + 65536, greatest - 65536, Integer.MIN_VALUE + greatest,
            Integer.MAX_VALUE - greatest};
        Set<Integer> beyond = new TreeSet<>();
        for (int value : values) {
            if (value < least || value > greatest) {
                beyond.add(value);
            }
        }
        return beyond;
    }
}
