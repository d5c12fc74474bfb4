/** Houses that are made in the same way, to see whether a call has left a trace in one of them. */
final class Twins {
    /** One more than can be undone, so that the look also takes in an undo that has nothing left. */
    private static final int UNDOS = 9;

    private Twins() {
    }

    interface Maker {
        ToplistHouse make();
    }

    interface Use {
        Object on(ToplistHouse house);
    }

    /** The call must throw just that exception; what all calls answer afterwards, also behind undos, stays. */
    static void refused(String what, Maker maker, String exception, Use call) {
        refused(what, maker, exception, call, traces(maker, house -> "none"));
    }

    /** The same for one of many calls, with the traces of a house that has not been called. */
    static void refused(String what, Maker maker, String exception, Use call, String untouched) {
        Check.due(what, () -> call.on(maker.make()), "throws " + exception);
        String difference = Look.difference(traces(maker, call), untouched);
        Check.due(what + " changes nothing", () -> difference, "none");
    }

    /** All that a call leaves behind: a line for each answer, after it and after each undo. */
    static String traces(Maker maker, Use call) {
        StringBuilder text = new StringBuilder();
        for (int undos = 0; undos <= UNDOS; undos++) {
            ToplistHouse house = maker.make();
            Check.answerOf(() -> call.on(house));
            for (int undo = 1; undo <= undos; undo++) {
                text.append("undo ").append(undo).append(": ").append(house.undo()).append('\n');
            }
            text.append(undos == 0 ? Look.at(house) : "");
            tellRows(house, text);
            tellNumbers(house, text);
            tellWhatSettersAnswer(house, text);
        }
        return text.toString();
    }

    private static void tellRows(ToplistHouse house, StringBuilder text) {
        for (int row = 0; row < 5; row++) {
            text.append("row ").append(row).append(':');
            for (int place = 0; place < house.itemCount(row); place++) {
                text.append(' ').append(house.thingAt(row, place)).append(' ').append(house.markAt(row, place));
            }
            text.append('\n');
        }
    }

    private static void tellNumbers(ToplistHouse house, StringBuilder text) {
        text.append("bound ").append(house.bound()).append(", window");
        for (int rank = 0; rank < house.windowSize(); rank++) {
            text.append(' ').append(house.windowAt(rank));
        }
        text.append('\n');
        for (int number = 0; number < 100; number++) {
            text.append(number).append(" came ").append(house.came(number)).append(", counted ")
                    .append(house.counted(number)).append('\n');
        }
    }

    /** Weights, the rule, costs, the width and the counters show in full only in what changes answer. */
    private static void tellWhatSettersAnswer(ToplistHouse house, StringBuilder text) {
        for (int row = 0; row < 5; row++) {
            text.append("weight ").append(house.setWeight(row, 1)).append('\n');
        }
        text.append("rule ").append(house.setRule(ToplistHouse.SUM)).append('\n');
        text.append("costs ").append(house.setCosts(0, 0)).append('\n');
        for (int number = 60; number < 71; number++) {
            text.append("leaves ").append(house.push(number)).append(", bound ").append(house.bound()).append('\n');
        }
        text.append("came by ").append(house.setWindow(5, 2)).append('\n');
    }
}
