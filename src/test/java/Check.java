/** Counts what is not as due; each test ends with finish(). */
final class Check {
    private static int wrong = 0;
    private static int looked = 0;

    private Check() {
    }

    /** A call of the house, and a run of calls of it that may throw. */
    interface Call {
        Object answer();
    }

    static void due(String what, Call call, Object want) {
        looked++;
        Object got = answerOf(call);
        if (!want.equals(got)) {
            wrong++;
            System.out.println(what + ": answered " + got + ", due is " + want);
        }
    }

    /** What a call answers, or "throws " and the exception's name. */
    static Object answerOf(Call call) {
        try {
            return call.answer();
        } catch (RuntimeException e) {
            return "throws " + e.getClass().getSimpleName();
        }
    }

    static void isTrue(String what, boolean isSo) {
        due(what, () -> isSo, true);
    }

    /** The call must throw just that exception, and leave the house as it was. */
    static void refused(String what, ToplistHouse house, Call call, String exception) {
        String before = Look.at(house);
        due(what, call, "throws " + exception);
        due(what + " changes nothing", () -> Look.at(house), before);
    }

    static void finish() {
        System.out.println(looked + " answers looked at, " + wrong + " not as due");
        if (wrong != 0) {
            System.exit(1);
        }
    }
}
