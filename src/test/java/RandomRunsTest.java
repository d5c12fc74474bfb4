/** Long runs of calls on the house and on the plain one; each must answer as the other does. */
public final class RandomRunsTest {
    private static final int RUNS = 300;
    private static final int CALLS = 512;

    /** What a run likes: it draws things, marks and numbers from so many, and drops or puts more. */
    private final int things;
    private final int marks;
    private final int numbers;
    private final int changesOfTen;
    private final int wrongOfHundred;
    private final int dropsOfTen;
    private long seed;

    private RandomRunsTest(int run) {
        seed = run * 1000003L + 17;
        things = new int[] {20, 20, 8, 6, 12}[run % 5];
        marks = new int[] {100, 3, 10, 1, 40, 100, 2}[run % 7];
        numbers = new int[] {100, 3, 5, 8}[run % 4];
        changesOfTen = new int[] {3, 6, 9}[run % 3];
        wrongOfHundred = new int[] {2, 10}[run % 2];
        dropsOfTen = new int[] {0, 1, 5, 8}[run / 3 % 4];
    }

    /** A number from 0 to below - 1, the same one in each run of the test. */
    private int draw(int below) {
        seed = seed * 6364136223846793005L + 1442695040888963407L;
        return (int) ((seed >>> 33) % below);
    }

    private int drawFor(Calls.Kind kind) {
        if (draw(100) < wrongOfHundred) {
            return new int[] {kind.least - 1, kind.greatest + 1, Integer.MIN_VALUE, Integer.MAX_VALUE, -1, 0, 20,
                100}[draw(8)];
        }
        switch (kind) {
            case THING:
                return draw(things);
            case MARK:
                return 99 - draw(marks);
            case NUMBER:
                return draw(numbers);
            case PLACE:
            case PAIR_RANK:
            case MERGED_PLACE:
                return draw(2) == 0 ? draw(6) : draw(kind.greatest + 1);
            case WEIGHT:
                return new int[] {0, 0, 1, 1, 2, 3, 4, 5}[draw(8)];
            default:
                return kind.least + draw(kind.greatest - kind.least + 1);
        }
    }

    private Calls.Spec drawCall() {
        if (draw(10) >= changesOfTen) {
            return Calls.LOOKS[draw(Calls.LOOKS.length)];
        }
        int which = draw(20);
        if (which < 10) {
            return draw(10) < dropsOfTen ? Calls.CHANGES[1] : Calls.CHANGES[0];
        }
        if (which < 13) {
            return Calls.CHANGES[6];
        }
        return Calls.CHANGES[draw(8)];
    }

    private void run(int run) {
        ToplistHouse house = new ToplistHouse();
        PlainHouse plain = new PlainHouse();
        for (int call = 0; call < CALLS; call++) {
            Calls.Spec spec = drawCall();
            int[] numbers = new int[spec.kinds.length];
            for (int i = 0; i < numbers.length; i++) {
                numbers[i] = drawFor(spec.kinds[i]);
            }
            String due = Calls.answer(plain, spec, numbers);
            Check.due("run " + run + ", call " + call + ": " + Calls.told(spec, numbers),
                    () -> Calls.answer(house, spec, numbers), due);
            if (call % 128 == 127) {
                lookAtBoth(run, call, house, plain);
            }
        }
    }

    private void lookAtBoth(int run, int call, ToplistHouse house, PlainHouse plain) {
        String difference = Look.difference(Look.at(house), Look.at(plain));
        Check.due("run " + run + ", a look behind call " + call, () -> difference, "none");
    }

    public static void main(String[] args) {
        for (int run = 0; run < RUNS; run++) {
            new RandomRunsTest(run).run(run);
        }
        Check.finish();
    }
}
