import java.lang.reflect.InvocationTargetException;
import java.lang.reflect.Method;

/** The calls of the face as a table, to make them by name on the house and on the plain one. */
final class Calls {
    /** What an argument means: its range, and the few values that a look takes. */
    enum Kind {
        ROW(0, 4, -1, 0, 1, 2, 3, 4, 5),
        THING(0, 19, -1, 0, 1, 2, 3, 4, 7, 19, 20),
        MARK(0, 99, 0, 55, 99),
        WEIGHT(0, 5),
        RULE(0, 2),
        COST(0, 99),
        WIDTH(1, 10),
        COUNTERS(1, 4),
        NUMBER(0, 99, 0, 3, 7, 42, 99),
        PLACE(0, 19, -1, 0, 1, 2, 3, 19, 20),
        K(1, 20, 0, 1, 2, 3, 4, 5, 8, 20),
        DEPTH(1, 20, 0, 1, 2, 3, 4, 9, 20),
        DEPTH_OR_NONE(0, 20, 0, 1, 2, 3, 20),
        MERGED_PLACE(0, 99, 0, 1, 2, 3, 4, 5, 6, 7, 8, 9, 10, 40, 99),
        THOUSANDTHS(0, 1000, 0, 1, 250, 333, 500, 999, 1000),
        WINDOW_RANK(0, 9, 0, 1, 2, 3, 4, 5, 9),
        CANDIDATE_PLACE(0, 5, 0, 1, 2, 3, 4, 5, 6),
        PAIR_RANK(0, 399, 0, 1, 2, 5, 11, 60),
        FLAG(0, 1, 0, 1);

        final int least;
        final int greatest;
        final int[] samples;

        Kind(int least, int greatest, int... samples) {
            this.least = least;
            this.greatest = greatest;
            this.samples = samples;
        }
    }

    /** A call's name and the kinds of its arguments. */
    static final class Spec {
        final String name;
        final Kind[] kinds;

        Spec(String name, Kind... kinds) {
            this.name = name;
            this.kinds = kinds;
        }
    }

    static final Spec[] CHANGES = {
        new Spec("put", Kind.ROW, Kind.THING, Kind.MARK),
        new Spec("drop", Kind.ROW, Kind.THING),
        new Spec("setWeight", Kind.ROW, Kind.WEIGHT),
        new Spec("setRule", Kind.RULE),
        new Spec("setCosts", Kind.COST, Kind.COST),
        new Spec("setWindow", Kind.WIDTH, Kind.COUNTERS),
        new Spec("push", Kind.NUMBER),
        new Spec("undo"),
    };

    static final Spec[] LOOKS = {
        new Spec("itemCount", Kind.ROW),
        new Spec("thingAt", Kind.ROW, Kind.PLACE),
        new Spec("markAt", Kind.ROW, Kind.PLACE),
        new Spec("placeOf", Kind.ROW, Kind.THING),
        new Spec("value", Kind.THING),
        new Spec("knownCount"),
        new Spec("ranked", Kind.PLACE),
        new Spec("rankOf", Kind.THING),
        new Spec("limit", Kind.DEPTH),
        new Spec("stopDepth", Kind.K),
        new Spec("cost", Kind.K),
        new Spec("best", Kind.K, Kind.PLACE),
        new Spec("refute", Kind.K, Kind.DEPTH_OR_NONE),
        new Spec("lower", Kind.THING, Kind.DEPTH),
        new Spec("upper", Kind.THING, Kind.DEPTH),
        new Spec("plainDepth", Kind.K),
        new Spec("plainCost", Kind.K),
        new Spec("holds", Kind.K, Kind.ROW, Kind.THING, Kind.MARK),
        new Spec("mergedCount"),
        new Spec("mergedThing", Kind.MERGED_PLACE),
        new Spec("mergedRow", Kind.MERGED_PLACE),
        new Spec("comparisons", Kind.ROW, Kind.ROW),
        new Spec("allComparisons"),
        new Spec("quantile", Kind.THOUSANDTHS),
        new Spec("candidates"),
        new Spec("prefer", Kind.THING, Kind.THING),
        new Spec("winner"),
        new Spec("ring"),
        new Spec("swaps"),
        new Spec("orderAt", Kind.CANDIDATE_PLACE),
        new Spec("windowSize"),
        new Spec("windowAt", Kind.WINDOW_RANK),
        new Spec("unlike"),
        new Spec("counted", Kind.NUMBER),
        new Spec("came", Kind.NUMBER),
        new Spec("bound"),
        new Spec("pairSum", Kind.ROW, Kind.ROW, Kind.PAIR_RANK),
        new Spec("pairPlace", Kind.ROW, Kind.ROW, Kind.PAIR_RANK, Kind.FLAG),
        new Spec("common", Kind.ROW, Kind.ROW),
        new Spec("commonAt", Kind.ROW, Kind.ROW, Kind.PLACE),
        new Spec("meanMark"),
        new Spec("fill"),
        new Spec("errors"),
    };

    private Calls() {
    }

    /** What the call answers on this object, as a text, or "throws " and the exception's name. */
    static String answer(Object house, Spec spec, int[] numbers) {
        Class<?>[] types = new Class<?>[numbers.length];
        Object[] arguments = new Object[numbers.length];
        for (int i = 0; i < numbers.length; i++) {
            boolean isFlag = spec.kinds[i] == Kind.FLAG;
            types[i] = isFlag ? boolean.class : int.class;
            arguments[i] = isFlag ? (Object) (numbers[i] != 0) : (Object) numbers[i];
        }
        try {
            Method method = house.getClass().getDeclaredMethod(spec.name, types);
            return String.valueOf(method.invoke(house, arguments));
        } catch (InvocationTargetException e) {
            return "throws " + e.getCause().getClass().getSimpleName();
        } catch (ReflectiveOperationException e) {
            return "cannot be called: " + e;
        }
    }

    static String told(Spec spec, int[] numbers) {
        StringBuilder text = new StringBuilder(spec.name).append('(');
        for (int i = 0; i < numbers.length; i++) {
            text.append(i == 0 ? "" : ", ").append(numbers[i]);
        }
        return text.append(')').toString();
    }
}
