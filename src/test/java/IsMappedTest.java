// Promise 9
public final class IsMappedTest extends Cases {
    public static void main(String[] args) {
        run(IsMappedTest.class);
    }

    static void eachPageIsMappedWhenAllAre() {
        dueForPages(full(true), PROCESSES, PAGES, 1);
    }

    // 1 stands for true and 0 for false.
    private static void dueForPages(CowMemory x, int[] processes, int[] pages, int want) {
        dueForAll("isMapped", (p, page) -> x.isMapped(p, page) ? 1 : 0, processes, pages, want);
    }

    static void onlyTheOnePageIsMapped() {
        for (int mapped = 0; mapped < 20; mapped++) {
            CowMemory x = new CowMemory(2);
            forkToAll(x);
            x.map(mapped / 5, mapped % 5, mapped % 2 == 0);
            for (int slot = 0; slot < 20; slot++) {
                due("page " + slot + ", page " + mapped + " mapped", x.isMapped(slot / 5, slot % 5), slot == mapped);
            }
        }
    }

    static void aPageIsMappedByAttachAndByFork() {
        CowMemory x = new CowMemory(2);
        x.map(0, 0, true);
        x.attach(4, 0);
        due("isMapped(0, 4)", x.isMapped(0, 4), true);
        x.fork(0, 3);
        due("isMapped(3, 0)", x.isMapped(3, 0), true);
        due("isMapped(3, 4)", x.isMapped(3, 4), true);
        due("isMapped(3, 1)", x.isMapped(3, 1), false);
    }

    static void aPageThatWasUnmappedIsNotMapped() {
        CowMemory x = full(true);
        x.unmap(2, 4);
        due("isMapped(2, 4)", x.isMapped(2, 4), false);
        due("isMapped(1, 4)", x.isMapped(1, 4), true);
    }

    // "Whether p is alive and the page is mapped"

    static void aPageOfAProcessThatNeverLivedIsNotMapped() {
        CowMemory x = new CowMemory(2);
        x.map(0, 0, true);
        dueForPages(x, NOT_ALIVE, PAGES, 0);
    }

    static void aPageOfAProcessThatHasExitedIsNotMapped() {
        CowMemory x = full(true);
        for (int p = 0; p < 4; p++) {
            x.exit(p);
            due("isMapped(" + p + ", 0)", x.isMapped(p, 0), false);
            due("isMapped(" + p + ", 4)", x.isMapped(p, 4), false);
        }
    }

    // "false for numbers out of range"

    static void aProcessBelow0IsFalse() {
        dueForPages(full(true), BELOW_0, PAGES, 0);
    }

    static void aProcessAbove3IsFalse() {
        dueForPages(full(true), ABOVE_3, PAGES, 0);
    }

    static void aPageBelow0IsFalse() {
        dueForPages(full(true), PROCESSES, BELOW_0, 0);
    }

    static void aPageAbove4IsFalse() {
        dueForPages(full(true), PROCESSES, ABOVE_4, 0);
    }
}
