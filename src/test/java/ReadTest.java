// Promise 8
public final class ReadTest extends Cases {
    public static void main(String[] args) {
        run(ReadTest.class);
    }

    private static CowMemory fullOfValues() {
        CowMemory x = full(false);
        writeAll(x);
        return x;
    }

    static void eachCellFromTheFirstToTheLastIsRead() {
        CowMemory x = fullOfValues();
        for (int p = 0; p < 4; p++) {
            for (int cell = 0; cell < 20; cell++) {
                due("read(" + p + ", " + cell + ")", x.read(p, cell), 100 * p + cell + 1);
            }
        }
    }

    // A value that looks like a refusal is a value.
    static void aNegativeValueIsRead() {
        CowMemory x = new CowMemory(2);
        x.map(0, 0, false);
        for (int value : new int[] {BAD, DEAD, UNMAPPED, BUSY, LOW}) {
            x.write(0, 0, value);
            due("read(0, 0)", x.read(0, 0), value);
        }
    }

    static void aReadChangesNothing() {
        CowMemory x = fullOfValues();
        String before = state(x);
        x.read(0, 0);
        x.read(3, 19);
        due("state", state(x), before);
    }

    // "0 if p or cell is out of range, p is not alive, or the page is not mapped"

    static void aProcessBelow0Reads0() {
        dueForAll("read", fullOfValues()::read, BELOW_0, CELLS, 0);
    }

    static void aProcessAbove3Reads0() {
        dueForAll("read", fullOfValues()::read, ABOVE_3, CELLS, 0);
    }

    static void aCellBelow0Reads0() {
        dueForAll("read", fullOfValues()::read, PROCESSES, BELOW_0, 0);
    }

    static void aCellAbove19Reads0() {
        dueForAll("read", fullOfValues()::read, PROCESSES, ABOVE_19, 0);
    }

    static void aProcessThatNeverLivedReads0() {
        CowMemory x = new CowMemory(2);
        x.map(0, 0, true);
        x.write(0, 0, 5);
        dueForAll("read", x::read, NOT_ALIVE, CELLS, 0);
    }

    static void aProcessThatHasExitedReads0() {
        CowMemory x = fullOfValues();
        for (int p = 0; p < 4; p++) {
            x.exit(p);
            due("read(" + p + ", 0)", x.read(p, 0), 0);
            due("read(" + p + ", 19)", x.read(p, 19), 0);
        }
    }

    static void everyPageReads0WhenNoneIsMapped() {
        CowMemory x = new CowMemory(2);
        forkToAll(x);
        dueForAll("read", x::read, PROCESSES, CELLS, 0);
    }

    static void aPageThatWasNeverMappedReads0() {
        CowMemory x = new CowMemory(2);
        x.map(0, 2, false);
        for (int cell = 8; cell < 12; cell++) {
            x.write(0, cell, 5);
        }
        for (int cell = 0; cell < 20; cell++) {
            due("read(0, " + cell + ")", x.read(0, cell), cell / 4 == 2 ? 5 : 0);
        }
    }

    static void aPageThatWasUnmappedReads0() {
        CowMemory x = fullOfValues();
        for (int slot = 0; slot < 20; slot++) {
            x.unmap(slot / 5, slot % 5);
        }
        dueForAll("read", x::read, PROCESSES, CELLS, 0);
    }
}
