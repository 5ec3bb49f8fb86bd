// Promise 7
public final class WriteTest extends Cases {
    public static void main(String[] args) {
        run(WriteTest.class);
    }

    static void eachCellFromTheFirstToTheLastIsWritten() {
        CowMemory x = full(false);
        for (int p = 0; p < 4; p++) {
            for (int cell = 0; cell < 20; cell++) {
                due("write(" + p + ", " + cell + ", ..)", x.write(p, cell, 40 * p + cell), cell);
                due("read(" + p + ", " + cell + ")", x.read(p, cell), 40 * p + cell);
            }
        }
    }

    static void noOtherCellIsWritten() {
        for (int written = 0; written < 20; written++) {
            CowMemory x = full(false);
            x.write(1, written, 6);
            for (int p = 0; p < 4; p++) {
                for (int cell = 0; cell < 20; cell++) {
                    boolean same = p == 1 && cell == written;
                    due("read(" + p + ", " + cell + ") after write(1, " + written + ", 6)", x.read(p, cell), same ? 6 : 0);
                }
            }
        }
    }

    // "Writes the cell number (cell & 3) of the page number cell >> 2"
    static void aCellNumberIsAPageAndACellOfIt() {
        CowMemory x = new CowMemory(2);
        x.map(0, 3, true);
        due("write(0, 11, 1), of page 2", x.write(0, 11, 1), UNMAPPED);
        due("write(0, 12, 1), the first of page 3", x.write(0, 12, 1), 12);
        due("write(0, 15, 2), the last of page 3", x.write(0, 15, 2), 15);
        due("write(0, 16, 1), of page 4", x.write(0, 16, 1), UNMAPPED);
        x.attach(0, 3);
        due("read(0, 0)", x.read(0, 0), 1);
        due("read(0, 3)", x.read(0, 3), 2);
    }

    static void anyValueIsWritten() {
        CowMemory x = new CowMemory(2);
        x.map(0, 4, false);
        for (int value : new int[] {LOW, -4, -3, -2, -1, 0, 1, HIGH}) {
            due("write(0, 19, " + value + ")", x.write(0, 19, value), 19);
            due("read(0, 19)", x.read(0, 19), value);
        }
    }

    static void theLastWriteHolds() {
        CowMemory x = new CowMemory(2);
        x.map(0, 1, false);
        x.write(0, 7, 5);
        x.write(0, 7, 9);
        due("read(0, 7)", x.read(0, 7), 9);
        x.write(0, 7, 0);
        due("read(0, 7) after 0", x.read(0, 7), 0);
    }

    // "p outside 0..3 or cell outside 0..19: BAD"

    static void aProcessBelow0IsBad() {
        dueForWrites(full(true), BELOW_0, CELLS, BAD);
    }

    static void aProcessAbove3IsBad() {
        dueForWrites(full(true), ABOVE_3, CELLS, BAD);
    }

    static void aCellBelow0IsBad() {
        dueForWrites(full(false), PROCESSES, BELOW_0, BAD);
    }

    static void aCellAbove19IsBad() {
        dueForWrites(full(false), PROCESSES, ABOVE_19, BAD);
    }

    private static void dueForWrites(CowMemory x, int[] processes, int[] cells, int want) {
        dueForAll("write", (p, cell) -> x.write(p, cell, 1), processes, cells, want);
    }

    // "p is not alive: DEAD"

    static void aProcessThatNeverLivedIsDead() {
        CowMemory x = new CowMemory(2);
        dueForWrites(x, NOT_ALIVE, CELLS, DEAD);
    }

    static void aProcessThatHasExitedIsDead() {
        CowMemory x = full(true);
        for (int p = 0; p < 4; p++) {
            x.exit(p);
            due("write(" + p + ", 0, 1)", x.write(p, 0, 1), DEAD);
            due("total()", x.total(), 0);
        }
    }

    // "the page is not mapped: UNMAPPED"

    static void aPageThatWasNeverMappedIsUnmapped() {
        CowMemory x = new CowMemory(2);
        forkToAll(x);
        dueForWrites(x, PROCESSES, CELLS, UNMAPPED);
    }

    static void aPageThatWasUnmappedIsUnmapped() {
        CowMemory x = full(true);
        x.unmap(0, 2);
        for (int cell = 8; cell < 12; cell++) {
            due("write(0, " + cell + ", 1)", x.write(0, cell, 1), UNMAPPED);
            due("read(1, " + cell + ")", x.read(1, cell), 0);
        }
    }

    // "Tested in this order"

    static void badComesBeforeDead() {
        CowMemory x = new CowMemory(2);
        x.exit(0);
        dueForWrites(x, PROCESSES, BELOW_0, BAD);
        dueForWrites(x, PROCESSES, ABOVE_19, BAD);
    }

    static void badComesBeforeUnmapped() {
        CowMemory x = new CowMemory(2);
        forkToAll(x);
        dueForWrites(x, PROCESSES, BELOW_0, BAD);
        dueForWrites(x, PROCESSES, ABOVE_19, BAD);
    }

    static void deadComesBeforeUnmapped() {
        CowMemory x = new CowMemory(2);
        x.map(0, 0, true);
        x.fork(0, 1);
        x.unmap(1, 0);
        x.exit(1);
        due("write(1, 0, 1)", x.write(1, 0, 1), DEAD);
        due("write(2, 0, 1)", x.write(2, 0, 1), DEAD);
    }
}
