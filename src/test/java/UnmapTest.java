// Promise 3
public final class UnmapTest extends Cases {
    public static void main(String[] args) {
        run(UnmapTest.class);
    }

    static void eachPageOfEachProcessIsUnmapped() {
        CowMemory x = full(false);
        for (int slot = 0; slot < 20; slot++) {
            int p = slot / 5;
            int page = slot % 5;
            due("unmap(" + p + ", " + page + ")", x.unmap(p, page), page);
            due("isMapped(" + p + ", " + page + ")", x.isMapped(p, page), false);
            due("sheets()", x.sheets(), 19 - slot);
        }
    }

    static void theOtherPagesOfASheetKeepIt() {
        CowMemory x = new CowMemory(2);
        x.map(0, 0, true);
        x.attach(2, 0);
        x.fork(0, 1);
        x.write(0, 0, 9);
        due("unmap(0, 0)", x.unmap(0, 0), 0);
        due("read(0, 8)", x.read(0, 8), 9);
        due("read(1, 0)", x.read(1, 0), 9);
        due("showing(0, 2)", x.showing(0, 2), 3);
        due("isMapped(0, 2)", x.isMapped(0, 2), true);
    }

    static void aPageThatIsLeftAloneIsStillShared() {
        CowMemory x = new CowMemory(2);
        x.map(0, 0, true);
        x.attach(2, 0);
        x.unmap(0, 0);
        due("showing(0, 2)", x.showing(0, 2), 1);
        due("attach(3, 2)", x.attach(3, 2), 3);
    }

    static void theLastPageOfASheetTakesItAway() {
        CowMemory x = new CowMemory(2);
        x.map(0, 0, true);
        x.attach(2, 0);
        x.write(0, 0, 9);
        x.unmap(0, 0);
        due("unmap(0, 2)", x.unmap(0, 2), 2);
        due("sheets()", x.sheets(), 0);
        due("total()", x.total(), 0);
    }

    static void theProcessIsStillAliveWithoutPages() {
        CowMemory x = new CowMemory(2);
        x.map(0, 0, false);
        x.unmap(0, 0);
        due("showing(0, 0)", x.showing(0, 0), UNMAPPED);
        due("exit(0)", x.exit(0), 0);
    }

    // "BAD, DEAD as in map"

    static void aProcessBelow0IsBad() {
        dueForAll("unmap", full(true)::unmap, BELOW_0, PAGES, BAD);
    }

    static void aProcessAbove3IsBad() {
        dueForAll("unmap", full(true)::unmap, ABOVE_3, PAGES, BAD);
    }

    static void aPageBelow0IsBad() {
        dueForAll("unmap", full(true)::unmap, PROCESSES, BELOW_0, BAD);
    }

    static void aPageAbove4IsBad() {
        dueForAll("unmap", full(true)::unmap, PROCESSES, ABOVE_4, BAD);
    }

    static void aProcessThatNeverLivedIsDead() {
        CowMemory x = new CowMemory(2);
        x.map(0, 0, true);
        dueForAll("unmap", x::unmap, NOT_ALIVE, PAGES, DEAD);
    }

    static void aProcessThatHasExitedIsDead() {
        CowMemory x = full(true);
        for (int p = 0; p < 4; p++) {
            x.exit(p);
            due("unmap(" + p + ", 0)", x.unmap(p, 0), DEAD);
            due("unmap(" + p + ", 4)", x.unmap(p, 4), DEAD);
        }
    }

    // "it is not mapped: UNMAPPED"

    static void aPageThatWasNeverMappedIsUnmapped() {
        CowMemory x = new CowMemory(2);
        forkToAll(x);
        dueForAll("unmap", x::unmap, PROCESSES, PAGES, UNMAPPED);
    }

    static void aPageThatWasUnmappedIsUnmapped() {
        CowMemory x = full(true);
        x.unmap(1, 4);
        due("unmap(1, 4) again", x.unmap(1, 4), UNMAPPED);
        due("unmap(1, 4) once more", x.unmap(1, 4), UNMAPPED);
        due("showing(0, 4)", x.showing(0, 4), 3);
    }

    static void aPageOfAProcessThatLivesAgainIsUnmapped() {
        CowMemory x = new CowMemory(2);
        x.fork(0, 1);
        x.map(1, 0, true);
        x.exit(1);
        x.fork(0, 1);
        due("unmap(1, 0)", x.unmap(1, 0), UNMAPPED);
    }

    // The order is that of map.

    static void badComesBeforeDead() {
        CowMemory x = new CowMemory(2);
        x.exit(0);
        dueForAll("unmap", x::unmap, PROCESSES, BELOW_0, BAD);
        dueForAll("unmap", x::unmap, PROCESSES, ABOVE_4, BAD);
    }

    static void badComesBeforeUnmapped() {
        CowMemory x = new CowMemory(2);
        forkToAll(x);
        dueForAll("unmap", x::unmap, PROCESSES, BELOW_0, BAD);
        dueForAll("unmap", x::unmap, PROCESSES, ABOVE_4, BAD);
    }

    static void deadComesBeforeUnmapped() {
        CowMemory x = new CowMemory(2);
        x.map(0, 0, true);
        x.fork(0, 1);
        x.unmap(1, 0);
        x.exit(1);
        due("unmap(1, 0)", x.unmap(1, 0), DEAD);
        due("unmap(2, 0)", x.unmap(2, 0), DEAD);
    }
}
