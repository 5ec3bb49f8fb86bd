// Promise 6
public final class ExitTest extends Cases {
    public static void main(String[] args) {
        run(ExitTest.class);
    }

    static void theProcessIsAliveNoLonger() {
        CowMemory x = full(true);
        for (int p = 0; p < 4; p++) {
            due("exit(" + p + ")", x.exit(p), 5);
            due("map(" + p + ", 0, true)", x.map(p, 0, true), DEAD);
            due("showing(" + p + ", 0)", x.showing(p, 0), DEAD);
        }
    }

    static void itsPagesAreNotMapped() {
        CowMemory x = full(false);
        writeAll(x);
        x.exit(1);
        for (int page = 0; page < 5; page++) {
            due("isMapped(1, " + page + ")", x.isMapped(1, page), false);
            due("isMapped(2, " + page + ")", x.isMapped(2, page), true);
            due("read(1, 4 * " + page + ")", x.read(1, 4 * page), 0);
        }
        due("sheets()", x.sheets(), 15);
    }

    static void itsPagesAreNotMappedWhenItLivesAgain() {
        CowMemory x = new CowMemory(2);
        x.fork(0, 1);
        x.map(1, 0, true);
        x.map(1, 4, false);
        x.exit(1);
        due("fork(0, 1)", x.fork(0, 1), 0);
        due("showing(1, 0)", x.showing(1, 0), UNMAPPED);
        due("showing(1, 4)", x.showing(1, 4), UNMAPPED);
        due("map(1, 0, true)", x.map(1, 0, true), 0);
    }

    static void aSharedSheetStaysWithTheOtherProcess() {
        CowMemory x = new CowMemory(2);
        x.map(0, 0, true);
        x.write(0, 1, 3);
        x.fork(0, 1);
        due("exit(0)", x.exit(0), 1);
        due("read(1, 1)", x.read(1, 1), 3);
        due("showing(1, 0)", x.showing(1, 0), 1);
        due("sheets()", x.sheets(), 1);
    }

    static void aSheetThatOnlyItShowedIsShownNoLonger() {
        CowMemory x = new CowMemory(2);
        x.fork(0, 1);
        x.map(1, 0, true);
        x.attach(12, 8);
        x.write(1, 0, 3);
        due("exit(1)", x.exit(1), 2);
        due("sheets()", x.sheets(), 0);
        due("total()", x.total(), 0);
    }

    static void theLastProcessExits() {
        CowMemory x = new CowMemory(2);
        x.map(0, 0, false);
        due("exit(0)", x.exit(0), 1);
        due("sheets()", x.sheets(), 0);
        due("total()", x.total(), 0);
        due("fork(0, 1)", x.fork(0, 1), DEAD);
    }

    // "Else answers how many pages it had mapped", from none to all.

    static void anExitWithoutPagesAnswers0() {
        CowMemory x = new CowMemory(2);
        due("exit(0)", x.exit(0), 0);
    }

    static void anExitAnswersTheNumberOfPages() {
        for (int pages = 1; pages <= 5; pages++) {
            CowMemory x = new CowMemory(2);
            for (int page = 0; page < pages; page++) {
                x.map(0, 4 - page, page % 2 == 0);
            }
            due("exit(0) with " + pages, x.exit(0), pages);
        }
    }

    static void pagesAreCountedAndNotSheets() {
        CowMemory x = new CowMemory(2);
        x.map(0, 0, true);
        x.attach(1, 0);
        x.attach(4, 0);
        due("exit(0)", x.exit(0), 3);
    }

    static void aPageThatWasUnmappedIsNotCounted() {
        CowMemory x = new CowMemory(2);
        x.map(0, 0, true);
        x.map(0, 4, true);
        x.unmap(0, 4);
        due("exit(0)", x.exit(0), 1);
    }

    // "p outside 0..3: BAD"

    static void aProcessBelow0IsBad() {
        processesAreBad(BELOW_0);
    }

    static void aProcessAbove3IsBad() {
        processesAreBad(ABOVE_3);
    }

    private static void processesAreBad(int[] processes) {
        CowMemory x = full(true);
        for (int p : processes) {
            due("exit(" + p + ")", x.exit(p), BAD);
        }
        due("showing(3, 4)", x.showing(3, 4), 4);
    }

    // "it is not alive: DEAD"

    static void aProcessThatNeverLivedIsDead() {
        CowMemory x = new CowMemory(2);
        for (int p = 1; p < 4; p++) {
            due("exit(" + p + ")", x.exit(p), DEAD);
        }
    }

    static void aProcessThatHasExitedIsDead() {
        CowMemory x = full(true);
        for (int p = 0; p < 4; p++) {
            x.exit(p);
            due("exit(" + p + ") again", x.exit(p), DEAD);
        }
    }
}
