// Counts and prints the answers of one test that are not the due ones.
final class Answers {
    // A broken class may answer wrongly a million times; the first rows are the ones that help.
    private static final int MOST_PRINTED = 50;

    private int checked = 0;
    private int wrong = 0;

    void due(String call, long got, long want) {
        checked++;
        if (got != want) {
            report(call + " answered " + got + ", due is " + want);
        }
    }

    void due(String call, boolean got, boolean want) {
        due(call, got ? 1L : 0L, want ? 1L : 0L);
    }

    void due(String call, String got, String want) {
        checked++;
        if (!got.equals(want)) {
            report(call + " answered " + got + ", due is " + want);
        }
    }

    int checked() {
        return checked;
    }

    private void report(String row) {
        wrong++;
        if (wrong <= MOST_PRINTED) {
            System.out.println(row);
        }
    }

    void finish() {
        System.out.println(checked + " answers looked at, " + wrong + " not as due");
        if (wrong != 0 || checked == 0) {
            System.exit(1);
        }
    }
}
