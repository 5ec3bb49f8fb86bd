// The sections "What it is" and "Terms": how many processes, pages, cells and calls there are.
public final class TermsTest extends Cases {
    public static void main(String[] args) {
        run(TermsTest.class);
    }

    // "An object is used for at most 512 calls": the last of them is answered as the first.

    static void mapAndUnmapUpToThe512thCall() {
        CowMemory x = new CowMemory(2);
        for (int round = 0; round < 128; round++) {
            due("map, round " + round, x.map(0, 4, round % 2 == 0), 4);
            due("read, round " + round, x.read(0, 19), 0);
            due("write, round " + round, x.write(0, 19, round + 1), 19);
            due("unmap, round " + round, x.unmap(0, 4), 4);
        }
    }

    static void forkAndExitUpToThe512thCall() {
        CowMemory x = new CowMemory(2);
        for (int page = 0; page < 5; page++) {
            x.map(0, page, false);
        }
        x.write(0, 0, 1);
        for (int round = 0; round < 126; round++) {
            int q = 1 + round % 3;
            due("fork, round " + round, x.fork(0, q), 5);
            due("read, round " + round, x.read(q, 0), 1);
            due("write, round " + round, x.write(q, 0, -round), 0);
            due("exit, round " + round, x.exit(q), 5);
        }
        due("call 511", x.sheets(), 5);
        due("call 512", x.total(), 1);
    }

    static void attachAndUnmapUpToThe512thCall() {
        CowMemory x = new CowMemory(2);
        x.map(0, 0, true);
        x.fork(0, 3);
        for (int round = 0; round < 127; round++) {
            due("attach, round " + round, x.attach(28, 0), 4);
            due("write, round " + round, x.write(3, 16, round), 16);
            due("showing, round " + round, x.showing(0, 0), 3);
            due("unmap, round " + round, x.unmap(3, 4), 4);
        }
        due("call 511", x.read(0, 0), 126);
        due("call 512", x.sheets(), 1);
    }

    // "There are four processes, 0 to 3"

    static void allFourProcessesAreAliveAtOnce() {
        CowMemory x = new CowMemory(2);
        forkToAll(x);
        for (int p = 0; p < 4; p++) {
            due("map(" + p + ", 0, false)", x.map(p, 0, false), 0);
        }
        due("sheets()", x.sheets(), 4);
    }

    static void thereIsNoProcess4() {
        CowMemory x = new CowMemory(2);
        forkToAll(x);
        due("fork(0, 4)", x.fork(0, 4), BAD);
        due("map(4, 0, false)", x.map(4, 0, false), BAD);
        due("exit(4)", x.exit(4), BAD);
    }

    // "A process that is alive has 5 pages, 0 to 4"

    static void allFivePagesOfAllProcessesAreMappedAtOnce() {
        CowMemory x = new CowMemory(2);
        forkToAll(x);
        for (int slot = 0; slot < 20; slot++) {
            due("map of page " + slot % 5, x.map(slot / 5, slot % 5, slot % 3 == 0), slot % 5);
        }
        due("sheets()", x.sheets(), 20);
        for (int p = 0; p < 4; p++) {
            due("exit(" + p + ")", x.exit(p), 5);
        }
    }

    static void thereIsNoPage5() {
        CowMemory x = full(true);
        due("map(0, 5, true)", x.map(0, 5, true), BAD);
        due("unmap(0, 5)", x.unmap(0, 5), BAD);
    }

    // "A sheet, four cells (0 to 3) of type int"

    static void eachCellHoldsItsOwnValue() {
        CowMemory x = full(false);
        writeAll(x);
        for (int p = 0; p < 4; p++) {
            for (int cell = 0; cell < 20; cell++) {
                due("read(" + p + ", " + cell + ")", x.read(p, cell), 100 * p + cell + 1);
            }
        }
    }

    static void aCellHoldsTheLeastAndTheGreatestInt() {
        CowMemory x = new CowMemory(2);
        x.map(0, 0, false);
        for (int value : new int[] {LOW, HIGH, LOW + 1, HIGH - 1, -1, 0}) {
            due("write(0, 3, " + value + ")", x.write(0, 3, value), 3);
            due("read(0, 3)", x.read(0, 3), value);
        }
    }

    // "Two pages, of the same or of different processes, may show the same sheet"

    static void allTwentyPagesShowOneSheet() {
        CowMemory x = oneSheetForAll();
        for (int slot = 0; slot < 20; slot++) {
            x.write(slot / 5, 4 * (slot % 5) + slot % 4, slot + 7);
            for (int other = 0; other < 20; other++) {
                int cell = 4 * (other % 5) + slot % 4;
                due("page " + other + " after a write through page " + slot, x.read(other / 5, cell), slot + 7);
            }
        }
    }

    static void allTwentyPagesAreCountedForOneSheet() {
        CowMemory x = oneSheetForAll();
        x.write(2, 10, 9);
        for (int slot = 0; slot < 20; slot++) {
            due("showing of page " + slot, x.showing(slot / 5, slot % 5), 20);
        }
        due("sheets()", x.sheets(), 1);
        due("total()", x.total(), 9);
    }

    private static CowMemory oneSheetForAll() {
        CowMemory x = new CowMemory(2);
        x.map(0, 2, true);
        for (int page : new int[] {0, 1, 3, 4}) {
            x.attach(page, 2);
        }
        forkToAll(x);
        return x;
    }
}
