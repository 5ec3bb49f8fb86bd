// Promise 5
public final class ForkTest extends Cases {
    public static void main(String[] args) {
        run(ForkTest.class);
    }

    // Page 1 and 4 private, page 2 shared, page 0 and 3 not mapped.
    private static CowMemory parent() {
        CowMemory x = new CowMemory(2);
        x.map(0, 1, false);
        x.map(0, 2, true);
        x.map(0, 4, false);
        for (int cell = 0; cell < 20; cell++) {
            x.write(0, cell, 50 + cell);
        }
        return x;
    }

    static void theCopyHasTheSameValues() {
        CowMemory x = parent();
        due("fork(0, 2)", x.fork(0, 2), 3);
        for (int cell = 0; cell < 20; cell++) {
            boolean mapped = cell / 4 != 0 && cell / 4 != 3;
            due("read(2, " + cell + ")", x.read(2, cell), mapped ? 50 + cell : 0);
            due("read(0, " + cell + ")", x.read(0, cell), mapped ? 50 + cell : 0);
        }
    }

    static void theCopyHasTheSamePagesMapped() {
        CowMemory x = parent();
        x.fork(0, 2);
        for (int page = 0; page < 5; page++) {
            due("isMapped(2, " + page + ")", x.isMapped(2, page), page != 0 && page != 3);
        }
        due("sheets()", x.sheets(), 5);
    }

    static void aSharedPageShowsTheSameSheet() {
        CowMemory x = parent();
        x.fork(0, 2);
        due("showing(2, 2)", x.showing(2, 2), 2);
        x.write(2, 8, 3);
        x.write(0, 9, 4);
        due("read(0, 8)", x.read(0, 8), 3);
        due("read(2, 9)", x.read(2, 9), 4);
    }

    static void aSharedPageIsASharedPageOfTheCopy() {
        CowMemory x = parent();
        x.fork(0, 2);
        due("attach(0, 18)", x.attach(0, 18), 0);
        x.fork(2, 3);
        due("showing(3, 2)", x.showing(3, 2), 4);
    }

    static void aPrivatePageShowsANewSheet() {
        CowMemory x = parent();
        x.fork(0, 2);
        due("showing(2, 1)", x.showing(2, 1), 1);
        due("showing(0, 1)", x.showing(0, 1), 1);
        x.write(2, 4, 1);
        x.write(0, 5, 2);
        due("read(0, 4)", x.read(0, 4), 54);
        due("read(2, 5)", x.read(2, 5), 55);
    }

    static void aPrivatePageIsAPrivatePageOfTheCopy() {
        CowMemory x = parent();
        x.fork(0, 2);
        due("attach(0, 17)", x.attach(0, 17), UNMAPPED);
        x.fork(2, 3);
        due("showing(3, 1)", x.showing(3, 1), 1);
    }

    static void aCopyOfACopyHasTheValuesOfItsOwnParent() {
        CowMemory x = parent();
        x.fork(0, 1);
        x.write(0, 4, 70);
        x.fork(1, 2);
        x.write(1, 4, 71);
        x.fork(2, 3);
        x.write(2, 4, 72);
        due("read(0, 4)", x.read(0, 4), 70);
        due("read(1, 4)", x.read(1, 4), 71);
        due("read(2, 4)", x.read(2, 4), 72);
        due("read(3, 4)", x.read(3, 4), 54);
        due("showing(3, 2)", x.showing(3, 2), 4);
    }

    // The copy is of the time of the fork, however the parent's page goes on.
    static void theCopyStaysWhenTheParentGoes() {
        CowMemory x = parent();
        x.fork(0, 1);
        x.fork(0, 2);
        x.unmap(0, 1);
        x.map(0, 1, true);
        x.write(0, 4, 1);
        due("read(1, 4) after the parent's unmap", x.read(1, 4), 54);
        x.exit(0);
        due("read(1, 16) after the parent's exit", x.read(1, 16), 66);
        x.write(1, 16, 2);
        due("read(2, 16) of the other copy", x.read(2, 16), 66);
    }

    static void thePairOfPagesOfOneSheetIsAPairInTheCopy() {
        CowMemory x = new CowMemory(2);
        x.map(0, 0, true);
        x.attach(4, 0);
        due("fork(0, 1)", x.fork(0, 1), 2);
        due("showing(1, 4)", x.showing(1, 4), 4);
        due("sheets()", x.sheets(), 1);
    }

    static void eachProcessIsForkedToEachOther() {
        for (int p = 0; p < 4; p++) {
            for (int q = 0; q < 4; q++) {
                if (p != q) {
                    forkOne(p, q);
                }
            }
        }
    }

    private static void forkOne(int p, int q) {
        CowMemory x = new CowMemory(2);
        forkToAll(x);
        x.map(p, 0, false);
        x.map(p, 4, true);
        x.write(p, 0, 31);
        x.write(p, 16, 32);
        x.exit(q);
        String call = "fork(" + p + ", " + q + ")";
        due(call, x.fork(p, q), 2);
        due("private page after " + call, x.read(q, 0), 31);
        due("shared page after " + call, x.read(q, 16), 32);
        due("sheets after " + call, x.sheets(), 3);
    }

    // "Else answers the number of pages that q has mapped", from none to all.

    static void aForkWithoutPagesAnswers0() {
        CowMemory x = new CowMemory(2);
        due("fork(0, 1)", x.fork(0, 1), 0);
        due("showing(1, 0)", x.showing(1, 0), UNMAPPED);
        due("sheets()", x.sheets(), 0);
    }

    static void aForkAnswersTheNumberOfPages() {
        for (int pages = 1; pages <= 5; pages++) {
            CowMemory x = new CowMemory(2);
            for (int page = 0; page < pages; page++) {
                x.map(0, page, page % 2 == 0);
            }
            due("fork(0, 3) of " + pages, x.fork(0, 3), pages);
            due("exit(3) of " + pages, x.exit(3), pages);
        }
    }

    static void aPageThatWasUnmappedIsNotCounted() {
        CowMemory x = parent();
        x.unmap(0, 4);
        due("fork(0, 1)", x.fork(0, 1), 2);
        due("isMapped(1, 4)", x.isMapped(1, 4), false);
    }

    // 20 private pages: each has a sheet of its own, and no more sheets can be shown.
    static void allPagesOfAllProcessesAreCopied() {
        CowMemory x = new CowMemory(2);
        for (int page = 0; page < 5; page++) {
            x.map(0, page, false);
            x.write(0, 4 * page, page + 1);
        }
        for (int q = 1; q < 4; q++) {
            due("fork(0, " + q + ")", x.fork(0, q), 5);
            due("total()", x.total(), 15 * (q + 1));
        }
        due("sheets()", x.sheets(), 20);
        x.exit(0);
        due("fork(3, 0)", x.fork(3, 0), 5);
        due("read(0, 16)", x.read(0, 16), 5);
        due("sheets() again", x.sheets(), 20);
    }

    // "Process q comes to life", also one that has lived before.

    static void aProcessThatLivesAgainHasTheNewPagesOnly() {
        CowMemory x = new CowMemory(2);
        x.fork(0, 1);
        for (int page = 0; page < 5; page++) {
            x.map(1, page, true);
            x.write(1, 4 * page, 9);
        }
        x.exit(1);
        x.map(0, 2, false);
        due("fork(0, 1)", x.fork(0, 1), 1);
        for (int page = 0; page < 5; page++) {
            due("isMapped(1, " + page + ")", x.isMapped(1, page), page == 2);
            due("read(1, 4 * " + page + ")", x.read(1, 4 * page), 0);
        }
        due("attach(8, 10), its page is private now", x.attach(8, 10), UNMAPPED);
    }

    static void processZeroLivesAgain() {
        CowMemory x = parent();
        x.fork(0, 3);
        x.exit(0);
        due("fork(3, 0)", x.fork(3, 0), 3);
        due("read(0, 4)", x.read(0, 4), 54);
        due("showing(0, 2)", x.showing(0, 2), 2);
    }

    // "p or q outside 0..3: BAD"

    static void aParentBelow0IsBad() {
        dueForAll("fork", parent()::fork, BELOW_0, NOT_ALIVE, BAD);
    }

    static void aParentAbove3IsBad() {
        dueForAll("fork", parent()::fork, ABOVE_3, NOT_ALIVE, BAD);
    }

    static void aChildBelow0IsBad() {
        dueForAll("fork", parent()::fork, ALIVE, BELOW_0, BAD);
    }

    static void aChildAbove3IsBad() {
        dueForAll("fork", parent()::fork, ALIVE, ABOVE_3, BAD);
    }

    static void bothOutOfRangeAreBad() {
        CowMemory x = parent();
        dueForAll("fork", x::fork, BELOW_0, ABOVE_3, BAD);
        dueForAll("fork", x::fork, ABOVE_3, BELOW_0, BAD);
    }

    // "p is not alive: DEAD"

    static void aParentThatNeverLivedIsDead() {
        dueForAll("fork", parent()::fork, NOT_ALIVE, NOT_ALIVE, DEAD);
    }

    static void aParentThatHasExitedIsDead() {
        CowMemory x = parent();
        x.fork(0, 1);
        x.exit(0);
        due("fork(0, 2)", x.fork(0, 2), DEAD);
        due("exit(2)", x.exit(2), DEAD);
    }

    static void nothingIsForkedWhenNoneIsAlive() {
        CowMemory x = parent();
        x.exit(0);
        dueForAll("fork", x::fork, PROCESSES, PROCESSES, DEAD);
    }

    // "q is alive: BUSY"

    static void aChildThatIsAliveIsBusy() {
        CowMemory x = parent();
        x.fork(0, 1);
        due("fork(0, 1) again", x.fork(0, 1), BUSY);
        due("fork(1, 0)", x.fork(1, 0), BUSY);
    }

    static void aChildThatIsAliveWithoutPagesIsBusy() {
        CowMemory x = new CowMemory(2);
        x.fork(0, 1);
        x.map(0, 0, true);
        due("fork(0, 1)", x.fork(0, 1), BUSY);
        due("isMapped(1, 0)", x.isMapped(1, 0), false);
    }

    static void aForkToItselfIsBusy() {
        CowMemory x = full(false);
        for (int p = 0; p < 4; p++) {
            due("fork(" + p + ", " + p + ")", x.fork(p, p), BUSY);
        }
    }

    static void everyChildIsBusyWhenAllAreAlive() {
        dueForAll("fork", full(true)::fork, PROCESSES, PROCESSES, BUSY);
    }

    // "Tested in this order"

    static void badComesBeforeDead() {
        CowMemory x = parent();
        dueForAll("fork", x::fork, NOT_ALIVE, BELOW_0, BAD);
        dueForAll("fork", x::fork, NOT_ALIVE, ABOVE_3, BAD);
    }

    static void badComesBeforeBusy() {
        CowMemory x = parent();
        dueForAll("fork", x::fork, BELOW_0, ALIVE, BAD);
        dueForAll("fork", x::fork, ABOVE_3, ALIVE, BAD);
    }

    static void deadComesBeforeBusy() {
        CowMemory x = parent();
        dueForAll("fork", x::fork, NOT_ALIVE, ALIVE, DEAD);
        x.fork(0, 2);
        x.exit(0);
        due("fork(0, 2)", x.fork(0, 2), DEAD);
    }

    // A process that is not alive can't be BUSY, so forked to itself it is DEAD.
    static void aDeadProcessForkedToItselfIsDead() {
        CowMemory x = parent();
        due("fork(1, 1)", x.fork(1, 1), DEAD);
        x.exit(0);
        due("fork(0, 0)", x.fork(0, 0), DEAD);
    }
}
