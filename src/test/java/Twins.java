import java.util.Arrays;

// The class and the model side by side: each call goes to both, and their answers must be the same.
final class Twins {
    // What later calls answer is free; they must still not throw.
    private static final int PROMISED_CALLS = 512;

    private final Answers answers;
    private final String run;
    private final CowMemory memory;
    private final Model model = new Model();
    private int calls = 0;

    Twins(Answers answers, String run, int frames) {
        this.answers = answers;
        this.run = run;
        memory = new CowMemory(frames);
    }

    boolean areWithinThePromise() {
        return calls <= PROMISED_CALLS;
    }

    // A row is put into words only when it is wrong: there are millions of them.
    private int same(int got, int want, String call, int... numbers) {
        return (int) same((long) got, (long) want, call, numbers);
    }

    private long same(long got, long want, String call, int... numbers) {
        calls++;
        if (!areWithinThePromise()) {
            return got;
        }
        answers.due(got == want ? call : run + ", call " + calls + ": " + call + Arrays.toString(numbers), got, want);
        return got;
    }

    int map(int p, int page, boolean shared) {
        return same(memory.map(p, page, shared), model.map(p, page, shared), shared ? "map shared" : "map private", p, page);
    }

    int unmap(int p, int page) {
        return same(memory.unmap(p, page), model.unmap(p, page), "unmap", p, page);
    }

    int attach(int at, int from) {
        return same(memory.attach(at, from), model.attach(at, from), "attach", at, from);
    }

    int fork(int p, int q) {
        return same(memory.fork(p, q), model.fork(p, q), "fork", p, q);
    }

    int exit(int p) {
        return same(memory.exit(p), model.exit(p), "exit", p);
    }

    int write(int p, int cell, int value) {
        return same(memory.write(p, cell, value), model.write(p, cell, value), "write", p, cell, value);
    }

    int read(int p, int cell) {
        return same(memory.read(p, cell), model.read(p, cell), "read", p, cell);
    }

    int isMapped(int p, int page) {
        return same(memory.isMapped(p, page) ? 1 : 0, model.isMapped(p, page) ? 1 : 0, "isMapped", p, page);
    }

    int showing(int p, int page) {
        return same(memory.showing(p, page), model.showing(p, page), "showing", p, page);
    }

    long total() {
        return same(memory.total(), model.total(), "total");
    }

    int sheets() {
        return same(memory.sheets(), model.sheets(), "sheets");
    }

    // All that the asking calls tell, in 122 calls.
    long[] state() {
        long[] state = new long[122];
        int count = 0;
        for (int p = 0; p < 4; p++) {
            for (int page = 0; page < 5; page++) {
                state[count++] = isMapped(p, page);
                state[count++] = showing(p, page);
            }
            for (int cell = 0; cell < 20; cell++) {
                state[count++] = read(p, cell);
            }
        }
        state[count++] = total();
        state[count] = sheets();
        return state;
    }
}
