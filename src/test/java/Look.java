/** A look at a house: what a good part of all calls that change nothing would answer. */
final class Look {
    private Look() {
    }

    static String at(Object house) {
        StringBuilder text = new StringBuilder();
        for (Calls.Spec spec : Calls.LOOKS) {
            lookAt(house, spec, new int[spec.kinds.length], 0, text);
        }
        return text.toString();
    }

    private static void lookAt(Object house, Calls.Spec spec, int[] numbers, int set, StringBuilder text) {
        if (set == numbers.length) {
            text.append(Calls.told(spec, numbers)).append(' ').append(Calls.answer(house, spec, numbers)).append('\n');
            return;
        }
        // Four arguments have too many samples for a look each: every other one will do there.
        int step = numbers.length == 4 && spec.kinds[set].samples.length > 3 ? 2 : 1;
        for (int i = 0; i < spec.kinds[set].samples.length; i += step) {
            numbers[set] = spec.kinds[set].samples[i];
            lookAt(house, spec, numbers, set + 1, text);
        }
    }

    /** The first line in which two looks differ, for a message. */
    static String difference(String one, String other) {
        String[] lines = one.split("\n");
        String[] others = other.split("\n");
        for (int i = 0; i < lines.length && i < others.length; i++) {
            if (!lines[i].equals(others[i])) {
                return lines[i] + ", due is " + others[i];
            }
        }
        return "none";
    }
}
