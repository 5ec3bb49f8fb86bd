import java.lang.reflect.InvocationTargetException;
import java.lang.reflect.Method;
import java.lang.reflect.Modifier;
import java.util.Map;
import java.util.TreeMap;
import java.util.function.IntBinaryOperator;

// The base of a test that is made of cases: each static method of its own that takes and answers nothing is one.
abstract class Cases {
    // The document's numbers, not the class's constants, so that a wrong constant shows.
    static final int BAD = -1;
    static final int DEAD = -2;
    static final int UNMAPPED = -3;
    static final int BUSY = -4;

    static final int LOW = Integer.MIN_VALUE;
    static final int HIGH = Integer.MAX_VALUE;

    // Five times one of these wraps around to a small number, so a product that is not looked at finds a page.
    private static final int WRAPS_TO_4 = 858993460;
    private static final int WRAPS_TO_1 = -858993459;

    // Of a new object
    static final int[] ALIVE = {0};
    static final int[] NOT_ALIVE = {1, 2, 3};

    static final int[] PROCESSES = {0, 1, 2, 3};
    static final int[] PAGES = {0, 1, 2, 3, 4};
    static final int[] CELLS = {0, 1, 2, 3, 4, 5, 6, 7, 8, 9, 10, 11, 12, 13, 14, 15, 16, 17, 18, 19};
    static final int[] BELOW_0 = {-1, -2, -3, -4, -5, -8, -19, -20, WRAPS_TO_1, -(1 << 30), LOW + 1, LOW};
    static final int[] ABOVE_3 = {4, 5, 7, 8, 20, 256, WRAPS_TO_4, 1 << 29, 1 << 30, HIGH - 1, HIGH};
    static final int[] ABOVE_4 = {5, 6, 7, 8, 9, 20, 256, WRAPS_TO_4, 1 << 30, HIGH - 1, HIGH};
    static final int[] ABOVE_19 = {20, 21, 22, 23, 24, 80, 256, 1 << 30, HIGH - 3, HIGH};

    private static final Answers answers = new Answers();
    private static String caseName = "";

    static void run(Class<? extends Cases> test) {
        for (Map.Entry<String, Method> one : casesOf(test).entrySet()) {
            caseName = one.getKey() + ": ";
            runCase(one.getValue());
        }
        answers.finish();
    }

    private static Map<String, Method> casesOf(Class<?> test) {
        Map<String, Method> cases = new TreeMap<>();
        for (Method method : test.getDeclaredMethods()) {
            boolean plain = method.getParameterCount() == 0 && method.getReturnType() == void.class;
            if (plain && Modifier.isStatic(method.getModifiers()) && !method.isSynthetic()) {
                cases.put(method.getName(), method);
            }
        }
        return cases;
    }

    // A case that throws, or that looks at nothing, has failed, and the others are still run.
    private static void runCase(Method method) {
        int before = answers.checked();
        try {
            method.invoke(null);
        } catch (InvocationTargetException thrown) {
            answers.due(caseName + "a call", thrown.getCause().toString(), "no exception");
        } catch (IllegalAccessException thrown) {
            throw new IllegalStateException(thrown);
        }
        answers.due(caseName + "looks at some answer", answers.checked() > before, true);
    }

    static void due(String call, long got, long want) {
        answers.due(caseName + call, got, want);
    }

    static void due(String call, boolean got, boolean want) {
        answers.due(caseName + call, got, want);
    }

    static void due(String call, String got, String want) {
        answers.due(caseName + call, got, want);
    }

    // The call answers the same for each of the first numbers with each of the second ones.
    static void dueForAll(String call, IntBinaryOperator method, int[] firsts, int[] seconds, int want) {
        for (int first : firsts) {
            for (int second : seconds) {
                due(call + "(" + first + ", " + second + ")", method.applyAsInt(first, second), want);
            }
        }
    }

    // All four processes are alive with all five pages mapped: a number that strays finds a page that is not its own.
    static CowMemory full(boolean shared) {
        CowMemory x = new CowMemory(2);
        for (int page = 0; page < 5; page++) {
            x.map(0, page, shared);
        }
        forkToAll(x);
        return x;
    }

    static void forkToAll(CowMemory x) {
        for (int q = 1; q < 4; q++) {
            x.fork(0, q);
        }
    }

    // A value for each cell of each page; none is 0.
    static void writeAll(CowMemory x) {
        for (int p = 0; p < 4; p++) {
            for (int cell = 0; cell < 20; cell++) {
                x.write(p, cell, 100 * p + cell + 1);
            }
        }
    }

    // All that the asking calls tell; 122 of the 512 calls that an object is good for.
    static String state(CowMemory x) {
        StringBuilder text = new StringBuilder();
        for (int p = 0; p < 4; p++) {
            for (int page = 0; page < 5; page++) {
                text.append(x.isMapped(p, page) ? '+' : '-').append(x.showing(p, page)).append(' ');
            }
            for (int cell = 0; cell < 20; cell++) {
                text.append(x.read(p, cell)).append(' ');
            }
        }
        return text.append(x.total()).append(' ').append(x.sheets()).toString();
    }
}
