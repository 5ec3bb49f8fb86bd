// Promise 2
public final class MapTest extends Cases {
    public static void main(String[] args) {
        run(MapTest.class);
    }

    static void eachPageFromTheFirstToTheLastIsMapped() {
        CowMemory x = new CowMemory(2);
        for (int page = 0; page < 5; page++) {
            due("map(0, " + page + ", ..)", x.map(0, page, page % 2 == 0), page);
            due("isMapped(0, " + page + ")", x.isMapped(0, page), true);
            due("showing(0, " + page + ")", x.showing(0, page), 1);
            due("sheets()", x.sheets(), page + 1);
        }
    }

    static void aProcessThatWasForkedMapsItsOwnPages() {
        CowMemory x = new CowMemory(2);
        forkToAll(x);
        for (int p = 0; p < 4; p++) {
            due("map(" + p + ", " + p + ", true)", x.map(p, p, true), p);
            due("showing(" + p + ", " + p + ")", x.showing(p, p), 1);
        }
    }

    static void aNewSheetHasAllCells0() {
        CowMemory x = new CowMemory(2);
        for (int page = 0; page < 5; page++) {
            x.map(0, page, page % 2 == 0);
        }
        for (int cell = 0; cell < 20; cell++) {
            due("read(0, " + cell + ")", x.read(0, cell), 0);
        }
    }

    static void aPageThatIsMappedAgainHasAllCells0() {
        CowMemory x = full(false);
        writeAll(x);
        for (int slot = 0; slot < 20; slot++) {
            int p = slot / 5;
            int page = slot % 5;
            x.unmap(p, page);
            due("map(" + p + ", " + page + ", true)", x.map(p, page, true), page);
            for (int cell = 4 * page; cell < 4 * page + 4; cell++) {
                due("read(" + p + ", " + cell + ")", x.read(p, cell), 0);
            }
        }
        due("total()", x.total(), 0);
        due("sheets()", x.sheets(), 20);
    }

    // The old sheet goes on being shown by the other page, so the new one must be another.
    static void aPageThatIsMappedAgainLeavesItsOldSheetAlone() {
        CowMemory x = new CowMemory(2);
        x.map(0, 0, true);
        x.write(0, 1, 8);
        x.attach(1, 0);
        x.unmap(0, 0);
        due("map(0, 0, true)", x.map(0, 0, true), 0);
        due("read(0, 1)", x.read(0, 1), 0);
        due("read(0, 5)", x.read(0, 5), 8);
        due("sheets()", x.sheets(), 2);
    }

    static void thePageIsSharedAsItIsSaid() {
        CowMemory x = new CowMemory(2);
        x.map(0, 3, true);
        due("attach(4, 3)", x.attach(4, 3), 4);
        due("fork(0, 1)", x.fork(0, 1), 2);
        due("showing(1, 3)", x.showing(1, 3), 4);
    }

    static void thePageIsPrivateAsItIsSaid() {
        CowMemory x = new CowMemory(2);
        x.map(0, 3, false);
        due("attach(4, 3)", x.attach(4, 3), UNMAPPED);
        due("fork(0, 1)", x.fork(0, 1), 1);
        due("showing(1, 3)", x.showing(1, 3), 1);
    }

    static void aPageThatWasSharedIsMappedAgainAsPrivate() {
        CowMemory x = new CowMemory(2);
        x.map(0, 3, true);
        x.unmap(0, 3);
        x.map(0, 3, false);
        due("attach(4, 3)", x.attach(4, 3), UNMAPPED);
        x.fork(0, 1);
        due("showing(0, 3)", x.showing(0, 3), 1);
    }

    static void aPageThatWasPrivateIsMappedAgainAsShared() {
        CowMemory x = new CowMemory(2);
        x.map(0, 3, false);
        x.unmap(0, 3);
        x.map(0, 3, true);
        due("attach(4, 3)", x.attach(4, 3), 4);
        x.fork(0, 1);
        due("showing(0, 3)", x.showing(0, 3), 4);
    }

    static void theLastOfAllPagesIsMapped() {
        CowMemory x = full(false);
        writeAll(x);
        x.unmap(3, 4);
        due("map(3, 4, false)", x.map(3, 4, false), 4);
        due("read(3, 19)", x.read(3, 19), 0);
        due("sheets()", x.sheets(), 20);
        due("read(3, 15)", x.read(3, 15), 316);
        due("read(2, 19)", x.read(2, 19), 220);
    }

    // "p outside 0..3 or page outside 0..4: BAD"

    static void aProcessBelow0IsBad() {
        areBad(BELOW_0, PAGES);
    }

    static void aProcessAbove3IsBad() {
        areBad(ABOVE_3, PAGES);
    }

    static void aPageBelow0IsBad() {
        areBad(PROCESSES, BELOW_0);
    }

    static void aPageAbove4IsBad() {
        areBad(PROCESSES, ABOVE_4);
    }

    private static void areBad(int[] processes, int[] pages) {
        CowMemory x = new CowMemory(2);
        forkToAll(x);
        CowMemory y = full(true);
        dueForAll("map", (p, page) -> x.map(p, page, true), processes, pages, BAD);
        dueForAll("map, all mapped", (p, page) -> y.map(p, page, false), processes, pages, BAD);
    }

    static void aProcessAndAPageOutOfRangeAreBad() {
        CowMemory x = full(true);
        due("map(-1, 5, true)", x.map(-1, 5, true), BAD);
        due("map(4, -1, true)", x.map(4, -1, true), BAD);
        due("map(4, 5, true)", x.map(4, 5, true), BAD);
        due("map(-1, -1, true)", x.map(-1, -1, true), BAD);
    }

    // "p is not alive: DEAD"

    static void aProcessThatNeverLivedIsDead() {
        CowMemory x = new CowMemory(2);
        dueForAll("map", (p, page) -> x.map(p, page, true), NOT_ALIVE, PAGES, DEAD);
    }

    static void aProcessThatHasExitedIsDead() {
        CowMemory x = new CowMemory(2);
        forkToAll(x);
        for (int p = 0; p < 4; p++) {
            x.exit(p);
            due("map(" + p + ", 0, true)", x.map(p, 0, true), DEAD);
            due("map(" + p + ", 4, false)", x.map(p, 4, false), DEAD);
        }
    }

    // "the page is mapped: BUSY"

    static void aPageThatIsMappedIsBusy() {
        CowMemory x = new CowMemory(2);
        for (int page = 0; page < 5; page++) {
            x.map(0, page, page % 2 == 0);
            due("map(0, " + page + ", true)", x.map(0, page, true), BUSY);
            due("map(0, " + page + ", false)", x.map(0, page, false), BUSY);
        }
    }

    static void aPageThatIsAttachedIsBusy() {
        CowMemory x = new CowMemory(2);
        x.map(0, 0, true);
        x.attach(4, 0);
        due("map(0, 4, true)", x.map(0, 4, true), BUSY);
        x.unmap(0, 0);
        due("map(0, 4, true), the other unmapped", x.map(0, 4, true), BUSY);
    }

    static void aPageThatWasForkedIsBusy() {
        CowMemory x = new CowMemory(2);
        x.map(0, 0, true);
        x.map(0, 4, false);
        x.fork(0, 1);
        due("map(1, 0, false)", x.map(1, 0, false), BUSY);
        due("map(1, 4, false)", x.map(1, 4, false), BUSY);
    }

    static void everyPageIsBusyWhenAllAreMapped() {
        CowMemory x = full(false);
        dueForAll("map", (p, page) -> x.map(p, page, true), PROCESSES, PAGES, BUSY);
    }

    // "Tested in this order"

    static void badComesBeforeDead() {
        CowMemory x = new CowMemory(2);
        x.exit(0);
        dueForAll("map", (p, page) -> x.map(p, page, true), PROCESSES, BELOW_0, BAD);
        dueForAll("map", (p, page) -> x.map(p, page, true), PROCESSES, ABOVE_4, BAD);
    }

    // A process that exits leaves no mapped page; if one were left, DEAD would still be due.
    static void deadComesBeforeBusy() {
        CowMemory x = full(true);
        x.exit(2);
        dueForAll("map", (p, page) -> x.map(p, page, true), new int[] {2}, PAGES, DEAD);
    }
}
