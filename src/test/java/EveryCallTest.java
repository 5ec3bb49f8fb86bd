import java.util.ArrayList;
import java.util.Arrays;
import java.util.List;
import java.util.function.Consumer;
import java.util.function.ToIntFunction;

// From each of some states, every call with every number in and around its range: its answer, and all that it changes.
public final class EveryCallTest {
    private static final Answers answers = new Answers();

    public static void main(String[] args) {
        List<Consumer<Twins>> starts = List.of(
            x -> { },
            EveryCallTest::mixedPages,
            x -> fullOfValues(x, false),
            x -> fullOfValues(x, true),
            EveryCallTest::allAliveWithoutPages,
            EveryCallTest::noneAlive,
            EveryCallTest::oneSheetOfManyPages,
            EveryCallTest::onlyTheLastAlive);
        List<ToIntFunction<Twins>> calls = everyCall();
        for (int start = 0; start < starts.size(); start++) {
            for (int call = 0; call < calls.size(); call++) {
                tryCall("start " + start + ", try " + call, starts.get(start), calls.get(call));
            }
        }
        answers.finish();
    }

    private static void tryCall(String name, Consumer<Twins> start, ToIntFunction<Twins> call) {
        Twins x = new Twins(answers, name, 2);
        start.accept(x);
        long[] before = x.state();
        int answer = call.applyAsInt(x);
        long[] after = x.state();
        if (answer < 0) {
            answers.due(name + ": a refused call changes nothing", Arrays.equals(before, after), true);
        }
        useFurther(x);
        x.state();
        answers.due(name + ": the calls are within the promise", x.areWithinThePromise(), true);
    }

    // What the asking calls don't tell, which pages are shared and which were left behind, shows here.
    private static void useFurther(Twins x) {
        for (int slot = 0; slot < 20; slot++) {
            x.attach(4, 8 * (slot / 5) + slot % 5);
            x.unmap(0, 4);
        }
        x.fork(3, 2);
        x.fork(0, 3);
        x.fork(1, 2);
        x.map(3, 0, false);
        x.write(2, 4, 1000);
        x.write(3, 8, 2000);
    }

    private static List<ToIntFunction<Twins>> everyCall() {
        List<ToIntFunction<Twins>> calls = new ArrayList<>();
        for (int p = -2; p < 6; p++) {
            addCallsOfAProcess(calls, p);
        }
        for (int at = -9; at < 42; at++) {
            for (int from = -9; from < 42; from++) {
                int to = at;
                int source = from;
                calls.add(x -> x.attach(to, source));
            }
        }
        return calls;
    }

    private static void addCallsOfAProcess(List<ToIntFunction<Twins>> calls, int p) {
        calls.add(x -> x.exit(p));
        for (int number = -2; number < 6; number++) {
            int q = number;
            calls.add(x -> x.fork(p, q));
        }
        for (int number = -3; number < 9; number++) {
            int page = number;
            calls.add(x -> x.map(p, page, true));
            calls.add(x -> x.map(p, page, false));
            calls.add(x -> x.unmap(p, page));
            calls.add(x -> x.isMapped(p, page));
            calls.add(x -> x.showing(p, page));
        }
        for (int number = -5; number < 25; number++) {
            int cell = number;
            calls.add(x -> x.write(p, cell, 12345));
            calls.add(x -> x.read(p, cell));
        }
    }

    private static void forkToAll(Twins x) {
        for (int q = 1; q < 4; q++) {
            x.fork(0, q);
        }
    }

    // Processes 0 and 2 are alive, 1 has lived, 3 has not.
    private static void mixedPages(Twins x) {
        x.map(0, 1, false);
        x.map(0, 2, true);
        x.map(0, 4, true);
        x.fork(0, 1);
        x.fork(1, 2);
        x.attach(16, 2);
        x.unmap(0, 4);
        for (int cell = 0; cell < 20; cell++) {
            x.write(2, cell, 11 * cell + 1);
        }
        x.write(0, 4, -77);
        x.exit(1);
    }

    private static void fullOfValues(Twins x, boolean shared) {
        for (int page = 0; page < 5; page++) {
            x.map(0, page, shared);
        }
        forkToAll(x);
        for (int slot = 0; slot < 20; slot++) {
            x.write(slot / 5, 4 * (slot % 5) + slot % 4, slot + 1);
        }
    }

    private static void allAliveWithoutPages(Twins x) {
        forkToAll(x);
    }

    private static void noneAlive(Twins x) {
        fullOfValues(x, true);
        for (int p = 0; p < 4; p++) {
            x.exit(p);
        }
    }

    private static void oneSheetOfManyPages(Twins x) {
        x.map(0, 1, true);
        x.attach(2, 1);
        x.attach(3, 2);
        forkToAll(x);
        x.unmap(2, 1);
        x.write(3, 13, 6);
    }

    private static void onlyTheLastAlive(Twins x) {
        x.map(0, 0, true);
        x.map(0, 4, false);
        x.write(0, 1, 8);
        x.write(0, 17, 9);
        x.fork(0, 3);
        x.exit(0);
    }
}
