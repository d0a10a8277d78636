/** Long mixed runs, the same ones each time, beside the plain model. */
public final class ModelTest {
    private static final int RUNS = 3000;
    private static final int[] ODD_NUMBERS = {
        -1, 4, 8, 9, -8, 64, 256, Integer.MIN_VALUE, Integer.MAX_VALUE, Integer.MAX_VALUE - 6
    };

    private final Pair pair;
    private final int oddOutOf;
    private long state;

    private ModelTest(int run) {
        pair = new Pair("run " + run);
        // Some runs have no wrong input, so that more of their calls change the state.
        oddOutOf = run % 3 == 0 ? 0 : 30;
        state = run * 7919L + 17;
    }

    public static void main(String[] args) {
        for (int run = 0; run < RUNS; run++) {
            ModelTest test = new ModelTest(run);
            if (run % 4 == 0) {
                test.fillAllPages();
            }
            test.mix(run % 2 == 0 ? 512 - Pair.CALLS_TO_COMPARE_ALL : 512);
            if (run % 2 == 0) {
                test.pair.compareAll();
            }
        }
        Due.end();
    }

    /** Afterwards all 64 pages differ from each other: the state with the least sharing. */
    private void fillAllPages() {
        writeAllPages(1000);
        for (int group = 0; group < 4; group++) {
            pair.pack(group, group, 0, 8);
        }
        writeAllPages(2000);
    }

    private void writeAllPages(int firstValue) {
        for (int place = 0; place < 32; place++) {
            pair.write(place / 8, place % 8, place % 4, firstValue + place);
        }
    }

    private void mix(int callsInAll) {
        while (pair.callsMade() < callsInAll) {
            change(next(16));
        }
    }

    private void change(int kind) {
        switch (kind) {
            case 0, 1, 2, 3, 4 -> pair.write(number(4), number(8), number(4), next(3));
            case 5 -> pair.fork(number(4), number(4));
            case 6, 7 -> pair.pack(number(4), number(4), number(8), 1 + number(8));
            case 8, 9 -> pair.unpack(number(4), number(4), number(8), next(2) == 0);
            case 10 -> pair.exchange(number(4), number(8), number(8));
            case 11 -> pair.clear(number(4), number(8));
            case 12 -> pair.size(number(4));
            case 13 -> pair.read(number(4), number(8), number(4));
            case 14 -> pair.peek(number(4), number(8), number(4));
            default -> pair.alike(number(4), number(4));
        }
    }

    private int number(int end) {
        if (oddOutOf != 0 && next(oddOutOf) == 0) {
            return ODD_NUMBERS[next(ODD_NUMBERS.length)];
        }
        return next(end);
    }

    private int next(int end) {
        state = state * 6364136223846793005L + 1442695040888963407L;
        return (int) ((state >>> 33) % end);
    }
}
