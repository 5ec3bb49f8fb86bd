// Promise 10
public final class ShowingTest extends Cases {
    public static void main(String[] args) {
        run(ShowingTest.class);
    }

    // From 1 to 20, "this one counted"

    static void aPageAloneIsCountedItself() {
        CowMemory x = new CowMemory(2);
        x.map(0, 0, true);
        x.map(0, 4, false);
        due("showing(0, 0)", x.showing(0, 0), 1);
        due("showing(0, 4)", x.showing(0, 4), 1);
    }

    static void pagesOfTheSameProcessAreCounted() {
        CowMemory x = new CowMemory(2);
        x.map(0, 0, true);
        for (int page = 1; page < 5; page++) {
            x.attach(page, 0);
            due("showing(0, 0)", x.showing(0, 0), page + 1);
            due("showing(0, " + page + ")", x.showing(0, page), page + 1);
        }
    }

    static void pagesOfAllProcessesAreCounted() {
        CowMemory x = new CowMemory(2);
        x.map(0, 0, true);
        for (int page = 1; page < 5; page++) {
            x.attach(page, 0);
        }
        for (int q = 1; q < 4; q++) {
            x.fork(0, q);
            due("showing(" + q + ", 4)", x.showing(q, 4), 5 * (q + 1));
            due("showing(0, 0)", x.showing(0, 0), 5 * (q + 1));
        }
    }

    static void aCopyOfAPrivatePageIsNotCounted() {
        dueForAll("showing", full(false)::showing, PROCESSES, PAGES, 1);
    }

    static void aPageOfAnotherSheetIsNotCounted() {
        dueForAll("showing", full(true)::showing, PROCESSES, PAGES, 4);
    }

    static void aPageThatWasUnmappedIsNotCounted() {
        CowMemory x = full(true);
        x.unmap(2, 3);
        due("showing(1, 3)", x.showing(1, 3), 3);
        x.map(2, 3, true);
        due("showing(1, 3) after a new map", x.showing(1, 3), 3);
        due("showing(2, 3)", x.showing(2, 3), 1);
    }

    static void aPageOfAProcessThatHasExitedIsNotCounted() {
        CowMemory x = full(true);
        x.exit(0);
        due("showing(3, 0)", x.showing(3, 0), 3);
        x.exit(1);
        x.exit(2);
        due("showing(3, 0) alone", x.showing(3, 0), 1);
    }

    // "BAD, DEAD and UNMAPPED as in unmap"

    static void aProcessBelow0IsBad() {
        dueForAll("showing", full(true)::showing, BELOW_0, PAGES, BAD);
    }

    static void aProcessAbove3IsBad() {
        dueForAll("showing", full(true)::showing, ABOVE_3, PAGES, BAD);
    }

    static void aPageBelow0IsBad() {
        dueForAll("showing", full(true)::showing, PROCESSES, BELOW_0, BAD);
    }

    static void aPageAbove4IsBad() {
        dueForAll("showing", full(true)::showing, PROCESSES, ABOVE_4, BAD);
    }

    static void aProcessThatNeverLivedIsDead() {
        CowMemory x = new CowMemory(2);
        x.map(0, 0, true);
        dueForAll("showing", x::showing, NOT_ALIVE, PAGES, DEAD);
    }

    static void aProcessThatHasExitedIsDead() {
        CowMemory x = full(true);
        for (int p = 0; p < 4; p++) {
            x.exit(p);
            due("showing(" + p + ", 4)", x.showing(p, 4), DEAD);
        }
    }

    static void aPageThatWasNeverMappedIsUnmapped() {
        CowMemory x = new CowMemory(2);
        forkToAll(x);
        dueForAll("showing", x::showing, PROCESSES, PAGES, UNMAPPED);
    }

    static void aPageThatWasUnmappedIsUnmapped() {
        CowMemory x = full(true);
        x.unmap(2, 3);
        due("showing(2, 3)", x.showing(2, 3), UNMAPPED);
    }

    // The order is that of unmap.

    static void badComesBeforeDead() {
        CowMemory x = new CowMemory(2);
        x.exit(0);
        dueForAll("showing", x::showing, PROCESSES, BELOW_0, BAD);
        dueForAll("showing", x::showing, PROCESSES, ABOVE_4, BAD);
    }

    static void badComesBeforeUnmapped() {
        CowMemory x = new CowMemory(2);
        forkToAll(x);
        dueForAll("showing", x::showing, PROCESSES, BELOW_0, BAD);
        dueForAll("showing", x::showing, PROCESSES, ABOVE_4, BAD);
    }

    static void deadComesBeforeUnmapped() {
        CowMemory x = new CowMemory(2);
        x.fork(0, 1);
        x.exit(1);
        due("showing(1, 0)", x.showing(1, 0), DEAD);
        due("showing(2, 0)", x.showing(2, 0), DEAD);
    }
}
