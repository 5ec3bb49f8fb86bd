// Long mixed runs, each call held against the model; the same runs every time.
public final class ModelRunsTest {
    private static final int RUNS = 4000;
    private static final int CALLS = 512;
    private static final int LONG_RUNS = 40;
    private static final int CALLS_OF_A_LONG_RUN = 10000;
    private static final int[] FRAMES = {2, 3, 4, 5, 6, 0, 1, 7, -1, Integer.MIN_VALUE, Integer.MAX_VALUE};
    private static final int[] ODD_NUMBERS = {-1, -2, -8, 4, 5, 6, 7, 20, 21, 32, 40, Integer.MIN_VALUE, Integer.MAX_VALUE};

    private static final Answers answers = new Answers();

    // A plain congruence, so that a run that fails once fails always.
    private static long seed = 1;

    // How often in 64 an ending call is let through, and a number may be wrong: some runs fill up, some stay thin.
    private static int endings = 0;
    private static int oddness = 0;

    public static void main(String[] args) {
        for (int run = 0; run < RUNS; run++) {
            makeRun(run, CALLS);
        }
        for (int run = 0; run < LONG_RUNS; run++) {
            makeRun(run, CALLS_OF_A_LONG_RUN);
        }
        answers.finish();
    }

    private static void makeRun(int run, int calls) {
        seed = run + 1;
        endings = new int[] {1, 4, 16, 64}[run % 4];
        oddness = new int[] {0, 2, 8}[run % 3];
        Twins x = new Twins(answers, "run " + run, FRAMES[run % FRAMES.length]);
        for (int call = 0; call < calls; call++) {
            makeCall(x);
        }
    }

    private static int below(int bound) {
        seed = seed * 6364136223846793005L + 1442695040888963407L;
        return (int) ((seed >>> 33) % bound);
    }

    private static int number(int bound) {
        return below(64) < oddness ? ODD_NUMBERS[below(ODD_NUMBERS.length)] : below(bound);
    }

    private static int place() {
        int p = below(4);
        return below(64) < oddness ? number(64) : 8 * p + below(5);
    }

    private static int value() {
        return below(8) == 0 ? ODD_NUMBERS[below(ODD_NUMBERS.length)] : below(1 << 20) * 4001;
    }

    private static void makeCall(Twins x) {
        switch (below(16)) {
            case 0, 1, 2 -> x.map(number(4), number(5), below(2) == 0);
            case 3, 4 -> x.attach(place(), place());
            case 5 -> x.fork(number(4), number(4));
            case 6, 7 -> end(x);
            case 8, 9, 10 -> x.write(number(4), number(20), value());
            case 11 -> x.isMapped(number(4), number(5));
            case 12 -> x.showing(number(4), number(5));
            case 13 -> x.total();
            default -> x.read(number(4), number(20));
        }
    }

    // An exit is made rarer still, and seldom of process 0 or 1, or most runs would end with none alive.
    private static void end(Twins x) {
        if (below(64) >= endings) {
            x.sheets();
        } else if (below(3) == 0) {
            x.exit(below(16) == 0 ? number(4) : 2 + below(2));
        } else {
            x.unmap(number(4), number(5));
        }
    }
}
