// Long mixed runs, each call held against the model; the same runs every time.
public final class ModelRunsTest {
    private static final int RUNS = 4000;
    private static final int CALLS = 512;
    private static final int LONG_RUNS = 40;
    private static final int CALLS_OF_A_LONG_RUN = 10000;
    private static final int[] FRAMES = {2, 3, 4, 5, 6, 0, 1, 7, -1, Integer.MIN_VALUE, Integer.MAX_VALUE};
    private static final int[] ODD_NUMBERS = {-1, -2, -8, 4, 5, 6, 7, 20, 21, 32, 40, Integer.MIN_VALUE, Integer.MAX_VALUE};

    private static final Answers answers = new Answers();

    // A plain congruence, so that a run that fails once fails always.
    private static long seed = 1;

    // How often in 64 an ending call is let through, and a number may be wrong: some runs fill up, some stay thin.
    private static int endings = 0;
    private static int oddness = 0;

    public static void main(String[] args) {
        for (int run = 0; run < RUNS; run++) {
            startRun(run);
            CowMemory x = new CowMemory(FRAMES[run % FRAMES.length]);
            Model model = new Model();
            for (int call = 0; call < CALLS; call++) {
                compareOneCall("run " + run + ", call " + call + ": ", x, model);
            }
        }
        noCallFailsPastThePromise();
        answers.finish();
    }

    private static void startRun(int run) {
        seed = run + 1;
        endings = new int[] {1, 4, 16, 64}[run % 4];
        oddness = new int[] {0, 2, 8}[run % 3];
    }

    // The answers past call 512 are free, but a call must still not throw.
    private static void noCallFailsPastThePromise() {
        for (int run = 0; run < LONG_RUNS; run++) {
            startRun(run);
            CowMemory x = new CowMemory(FRAMES[run % FRAMES.length]);
            for (int call = 0; call < CALLS_OF_A_LONG_RUN; call++) {
                anyCall(x);
            }
        }
    }

    private static void anyCall(CowMemory x) {
        switch (below(16)) {
            case 0, 1, 2 -> x.map(number(4), number(5), below(2) == 0);
            case 3 -> x.unmap(number(4), number(5));
            case 4, 5 -> x.attach(place(), place());
            case 6, 7 -> x.fork(number(4), number(4));
            case 8 -> x.exit(1 + number(3));
            case 9, 10 -> x.write(number(4), number(20), value());
            case 11 -> x.read(number(4), number(20));
            case 12 -> x.isMapped(number(4), number(5));
            case 13 -> x.showing(number(4), number(5));
            case 14 -> x.total();
            default -> x.sheets();
        }
    }

    private static int below(int bound) {
        seed = seed * 6364136223846793005L + 1442695040888963407L;
        return (int) ((seed >>> 33) % bound);
    }

    private static int number(int bound) {
        return below(64) < oddness ? ODD_NUMBERS[below(ODD_NUMBERS.length)] : below(bound);
    }

    private static int place() {
        int p = below(4);
        return below(64) < oddness ? number(64) : 8 * p + below(5);
    }

    private static int value() {
        return below(8) == 0 ? ODD_NUMBERS[below(ODD_NUMBERS.length)] : below(1 << 20) * 4001;
    }

    private static void compareOneCall(String where, CowMemory x, Model model) {
        int kind = below(16);
        if (kind < 3) {
            compareMapping(where, x, model);
        } else if (kind < 5) {
            compareAttach(where, x, model);
        } else if (kind < 6) {
            compareFork(where, x, model);
        } else if (kind < 8) {
            compareEnding(where, x, model);
        } else if (kind < 11) {
            compareWrite(where, x, model);
        } else {
            compareAsking(where, x, model);
        }
    }

    private static void compareMapping(String where, CowMemory x, Model model) {
        int p = number(4);
        int page = number(5);
        boolean shared = below(2) == 0;
        answers.due(where + "map(" + p + ", " + page + ", " + shared + ")", x.map(p, page, shared), model.map(p, page, shared));
    }

    private static void compareAttach(String where, CowMemory x, Model model) {
        int at = place();
        int from = place();
        answers.due(where + "attach(" + at + ", " + from + ")", x.attach(at, from), model.attach(at, from));
    }

    private static void compareFork(String where, CowMemory x, Model model) {
        int p = number(4);
        int q = number(4);
        answers.due(where + "fork(" + p + ", " + q + ")", x.fork(p, q), model.fork(p, q));
    }

    // An exit is made rarer still, and seldom of process 0 or 1, or most runs would end with none alive.
    private static void compareEnding(String where, CowMemory x, Model model) {
        if (below(64) >= endings) {
            answers.due(where + "sheets()", x.sheets(), model.sheets());
        } else if (below(3) == 0) {
            int p = below(16) == 0 ? number(4) : 2 + below(2);
            answers.due(where + "exit(" + p + ")", x.exit(p), model.exit(p));
        } else {
            int p = number(4);
            int page = number(5);
            answers.due(where + "unmap(" + p + ", " + page + ")", x.unmap(p, page), model.unmap(p, page));
        }
    }

    private static void compareWrite(String where, CowMemory x, Model model) {
        int p = number(4);
        int cell = number(20);
        int value = value();
        answers.due(where + "write(" + p + ", " + cell + ", " + value + ")", x.write(p, cell, value), model.write(p, cell, value));
    }

    private static void compareAsking(String where, CowMemory x, Model model) {
        int p = number(4);
        int page = number(5);
        int cell = number(20);
        switch (below(5)) {
            case 0 -> answers.due(where + "isMapped(" + p + ", " + page + ")", x.isMapped(p, page), model.isMapped(p, page));
            case 1 -> answers.due(where + "showing(" + p + ", " + page + ")", x.showing(p, page), model.showing(p, page));
            case 2 -> answers.due(where + "total()", x.total(), model.total());
            default -> answers.due(where + "read(" + p + ", " + cell + ")", x.read(p, cell), model.read(p, cell));
        }
    }
}
