// Promise 11
public final class TotalTest extends Cases {
    public static void main(String[] args) {
        run(TotalTest.class);
    }

    static void allCellsOfAllSheetsAreTaken() {
        CowMemory x = full(false);
        writeAll(x);
        due("total()", x.total(), 20 * (100 + 200 + 300) + 4 * 210);
    }

    static void eachCellIsTaken() {
        for (int cell = 0; cell < 20; cell++) {
            CowMemory x = full(false);
            x.write(3, cell, cell + 5);
            due("total() after write(3, " + cell + ", ..)", x.total(), cell + 5);
        }
    }

    static void negativeValuesAreTaken() {
        CowMemory x = new CowMemory(2);
        x.map(0, 0, true);
        x.write(0, 0, 40);
        x.write(0, 3, -42);
        due("total()", x.total(), -2);
        x.write(0, 1, 2);
        due("total() that cancels out", x.total(), 0);
    }

    // "of all sheets that some page shows"

    static void theTotalOfNoSheetIs0() {
        CowMemory x = new CowMemory(2);
        due("total() of a new object", x.total(), 0);
        x.map(0, 0, true);
        due("total() of a new sheet", x.total(), 0);
    }

    static void aSheetThatNoPageShowsIsNotTaken() {
        CowMemory x = new CowMemory(2);
        x.map(0, 0, false);
        x.write(0, 0, 7);
        x.fork(0, 1);
        x.unmap(0, 0);
        due("total() after unmap", x.total(), 7);
        x.exit(1);
        due("total() after exit", x.total(), 0);
    }

    static void aSheetThatSomePageStillShowsIsTaken() {
        CowMemory x = new CowMemory(2);
        x.map(0, 0, true);
        x.write(0, 0, 7);
        x.fork(0, 1);
        x.unmap(0, 0);
        due("total() after unmap", x.total(), 7);
        x.attach(0, 8);
        x.exit(1);
        due("total() after exit", x.total(), 7);
    }

    // "each sheet taken once"

    static void aSheetThatTwoPagesShowIsTakenOnce() {
        CowMemory x = new CowMemory(2);
        x.map(0, 0, true);
        x.write(0, 0, 7);
        x.attach(1, 0);
        due("total() with two pages of one process", x.total(), 7);
        forkToAll(x);
        due("total() with eight pages", x.total(), 7);
    }

    static void sheetsWithEqualValuesAreEachTaken() {
        CowMemory x = new CowMemory(2);
        x.map(0, 0, false);
        x.map(0, 1, true);
        x.write(0, 0, 7);
        x.write(0, 4, 7);
        due("total()", x.total(), 14);
        x.fork(0, 1);
        due("total() after fork", x.total(), 21);
    }

    // "as a long": past the range of int on both sides

    static void twoCellsPassTheGreatestInt() {
        CowMemory x = new CowMemory(2);
        x.map(0, 0, false);
        x.write(0, 0, HIGH);
        x.write(0, 1, 1);
        due("total()", x.total(), 1L + HIGH);
    }

    static void twoCellsPassTheLeastInt() {
        CowMemory x = new CowMemory(2);
        x.map(0, 0, false);
        x.write(0, 0, LOW);
        x.write(0, 1, -1);
        due("total()", x.total(), -1L + LOW);
    }

    static void twoSheetsPassTheGreatestInt() {
        CowMemory x = new CowMemory(2);
        x.map(0, 0, false);
        x.map(0, 4, true);
        x.write(0, 0, HIGH);
        x.write(0, 16, HIGH);
        due("total()", x.total(), 2L * HIGH);
    }

    static void theGreatestTotal() {
        due("total()", totalOfAllCells(HIGH), 80L * HIGH);
    }

    static void theLeastTotal() {
        due("total()", totalOfAllCells(LOW), 80L * LOW);
    }

    private static long totalOfAllCells(int value) {
        CowMemory x = full(false);
        for (int p = 0; p < 4; p++) {
            for (int cell = 0; cell < 20; cell++) {
                x.write(p, cell, value);
            }
        }
        return x.total();
    }
}
