// Promise 4
public final class AttachTest extends Cases {
    public static void main(String[] args) {
        run(AttachTest.class);
    }

    // A page number of 5 to 7 and a process number of 4 and above, packed; each next to numbers that are right.
    private static final int[] PAGE_ABOVE_4 = {5, 6, 7, 13, 14, 15, 21, 22, 23, 29, 30, 31};
    private static final int[] PROCESS_ABOVE_3 = {32, 33, 36, 40, 64, 256, 1 << 16, 1 << 29, 1 << 30, (1 << 30) + 4, HIGH - 7};
    private static final int[] BOTH_ABOVE = {37, 39, 47, HIGH - 2, HIGH - 1, HIGH};
    private static final int[] NEGATIVE = {-1, -4, -7, -8, -16, -24, -32, -(1 << 30), LOW, LOW + 1, LOW + 4};

    private static final int[] WRONG = {-1, -8, 5, 13, 31, 32, LOW, HIGH};

    // The packed pages of process 0 and of the others
    private static final int[] PLACES_ALIVE = {0, 1, 2, 3, 4};
    private static final int[] PLACES_NOT_ALIVE = {8, 9, 12, 16, 18, 20, 24, 27, 28};

    static void aPageOfAnotherProcessIsAttached() {
        CowMemory x = new CowMemory(2);
        x.fork(0, 3);
        x.map(0, 4, true);
        x.write(0, 18, 5);
        due("attach(24, 4)", x.attach(24, 4), 0);
        due("read(3, 2)", x.read(3, 2), 5);
        due("write(3, 3, -6)", x.write(3, 3, -6), 3);
        due("read(0, 19)", x.read(0, 19), -6);
        due("showing(0, 4)", x.showing(0, 4), 2);
        due("sheets()", x.sheets(), 1);
    }

    static void aPageOfTheSameProcessIsAttached() {
        CowMemory x = new CowMemory(2);
        x.map(0, 0, true);
        due("attach(4, 0)", x.attach(4, 0), 4);
        x.write(0, 17, 3);
        due("read(0, 1)", x.read(0, 1), 3);
        due("showing(0, 4)", x.showing(0, 4), 2);
    }

    static void eachPageIsAttachedToEachOther() {
        for (int at = 0; at < 20; at++) {
            for (int from = 0; from < 20; from++) {
                if (at != from) {
                    attachOne(at / 5, at % 5, from / 5, from % 5);
                }
            }
        }
    }

    private static void attachOne(int p, int page, int q, int other) {
        CowMemory x = new CowMemory(2);
        forkToAll(x);
        x.map(q, other, true);
        x.write(q, 4 * other + 3, 77);
        String call = "attach(8 * " + p + " + " + page + ", 8 * " + q + " + " + other + ")";
        due(call, x.attach(8 * p + page, 8 * q + other), page);
        due("read after " + call, x.read(p, 4 * page + 3), 77);
        due("showing after " + call, x.showing(p, page), 2);
    }

    // "it becomes a shared page"

    static void anAttachedPageIsAttachedFurther() {
        CowMemory x = new CowMemory(2);
        x.map(0, 0, true);
        x.attach(1, 0);
        due("attach(2, 1)", x.attach(2, 1), 2);
        due("attach(3, 2)", x.attach(3, 2), 3);
        due("showing(0, 0)", x.showing(0, 0), 4);
    }

    static void anAttachedPageIsForkedAsShared() {
        CowMemory x = new CowMemory(2);
        x.map(0, 0, true);
        x.attach(1, 0);
        x.fork(0, 1);
        due("showing(1, 1)", x.showing(1, 1), 4);
        x.write(1, 4, 6);
        due("read(0, 0)", x.read(0, 0), 6);
    }

    static void aPageThatWasPrivateBecomesShared() {
        CowMemory x = new CowMemory(2);
        x.map(0, 0, true);
        x.map(0, 1, false);
        x.unmap(0, 1);
        due("attach(1, 0)", x.attach(1, 0), 1);
        due("attach(2, 1)", x.attach(2, 1), 2);
    }

    static void anAttachedPageOutlivesTheOneItCameFrom() {
        CowMemory x = new CowMemory(2);
        x.map(0, 0, true);
        x.write(0, 0, 4);
        x.fork(0, 1);
        x.attach(12, 0);
        x.exit(0);
        due("read(1, 16)", x.read(1, 16), 4);
        due("attach(11, 12)", x.attach(11, 12), 3);
        due("showing(1, 4)", x.showing(1, 4), 3);
    }

    // "p or q outside 0..3, or a page outside 0..4 (at and from must not be negative): BAD"

    static void aNegativeAtIsBad() {
        atIsBad(NEGATIVE);
    }

    static void aNegativeFromIsBad() {
        fromIsBad(NEGATIVE);
    }

    static void anAtWithAProcessAbove3IsBad() {
        atIsBad(PROCESS_ABOVE_3);
    }

    static void aFromWithAProcessAbove3IsBad() {
        fromIsBad(PROCESS_ABOVE_3);
    }

    static void anAtWithAPageAbove4IsBad() {
        atIsBad(PAGE_ABOVE_4);
    }

    static void aFromWithAPageAbove4IsBad() {
        fromIsBad(PAGE_ABOVE_4);
    }

    static void bothNumbersAboveAreBad() {
        atIsBad(BOTH_ABOVE);
        fromIsBad(BOTH_ABOVE);
    }

    static void anAtAndAFromOutOfRangeAreBad() {
        CowMemory x = full(true);
        dueForAll("attach", x::attach, NEGATIVE, NEGATIVE, BAD);
        dueForAll("attach", x::attach, PAGE_ABOVE_4, PROCESS_ABOVE_3, BAD);
        dueForAll("attach", x::attach, PROCESS_ABOVE_3, PAGE_ABOVE_4, BAD);
    }

    private static void atIsBad(int[] numbers) {
        CowMemory x = new CowMemory(2);
        forkToAll(x);
        x.map(0, 0, true);
        dueForAll("attach", x::attach, numbers, new int[] {0}, BAD);
    }

    private static void fromIsBad(int[] numbers) {
        CowMemory x = full(true);
        x.unmap(0, 0);
        dueForAll("attach", x::attach, new int[] {0}, numbers, BAD);
    }

    // "p or q is not alive: DEAD"

    static void aTargetThatNeverLivedIsDead() {
        CowMemory x = new CowMemory(2);
        x.map(0, 0, true);
        dueForAll("attach", x::attach, PLACES_NOT_ALIVE, new int[] {0}, DEAD);
    }

    static void aSourceThatNeverLivedIsDead() {
        dueForAll("attach", new CowMemory(2)::attach, PLACES_ALIVE, PLACES_NOT_ALIVE, DEAD);
    }

    static void aTargetThatHasExitedIsDead() {
        CowMemory x = full(true);
        x.exit(2);
        due("attach(16, 0)", x.attach(16, 0), DEAD);
    }

    static void aSourceThatHasExitedIsDead() {
        CowMemory x = full(true);
        x.unmap(0, 4);
        x.exit(2);
        due("attach(4, 20)", x.attach(4, 20), DEAD);
    }

    static void bothNotAliveAreDead() {
        dueForAll("attach", new CowMemory(2)::attach, PLACES_NOT_ALIVE, PLACES_NOT_ALIVE, DEAD);
    }

    // "the page of p is mapped: BUSY"

    static void aTargetThatIsMappedIsBusy() {
        CowMemory x = new CowMemory(2);
        x.map(0, 0, true);
        x.map(0, 1, false);
        x.map(0, 2, true);
        due("attach(1, 0), private", x.attach(1, 0), BUSY);
        due("attach(2, 0), shared", x.attach(2, 0), BUSY);
    }

    static void aTargetThatIsAttachedAlreadyIsBusy() {
        CowMemory x = new CowMemory(2);
        x.map(0, 0, true);
        x.attach(1, 0);
        due("attach(1, 0) again", x.attach(1, 0), BUSY);
        due("attach(0, 1), the other way", x.attach(0, 1), BUSY);
    }

    static void aMappedPageAttachedToItselfIsBusy() {
        CowMemory x = full(true);
        for (int at : new int[] {0, 4, 8, 28}) {
            due("attach(" + at + ", " + at + ")", x.attach(at, at), BUSY);
        }
    }

    // "the page of q is not mapped or is private: UNMAPPED"

    static void aSourceThatIsNotMappedIsUnmapped() {
        CowMemory x = new CowMemory(2);
        forkToAll(x);
        due("attach(0, 1)", x.attach(0, 1), UNMAPPED);
        due("attach(0, 28)", x.attach(0, 28), UNMAPPED);
    }

    static void aSourceThatIsPrivateIsUnmapped() {
        CowMemory x = new CowMemory(2);
        x.map(0, 1, false);
        x.fork(0, 3);
        due("attach(0, 1)", x.attach(0, 1), UNMAPPED);
        due("attach(0, 25)", x.attach(0, 25), UNMAPPED);
        due("attach(24, 1)", x.attach(24, 1), UNMAPPED);
    }

    static void aSourceThatWasSharedIsUnmapped() {
        CowMemory x = new CowMemory(2);
        x.map(0, 1, true);
        x.unmap(0, 1);
        due("attach(0, 1), not mapped", x.attach(0, 1), UNMAPPED);
        x.map(0, 1, false);
        due("attach(0, 1), private", x.attach(0, 1), UNMAPPED);
    }

    static void anUnmappedPageAttachedToItselfIsUnmapped() {
        CowMemory x = new CowMemory(2);
        due("attach(0, 0)", x.attach(0, 0), UNMAPPED);
        x.map(0, 0, true);
        x.unmap(0, 0);
        due("attach(0, 0), once shared", x.attach(0, 0), UNMAPPED);
    }

    // "Tested in this order"

    static void badComesBeforeDead() {
        CowMemory x = new CowMemory(2);
        dueForAll("attach", x::attach, WRONG, PLACES_NOT_ALIVE, BAD);
        dueForAll("attach", x::attach, PLACES_NOT_ALIVE, WRONG, BAD);
    }

    static void badComesBeforeBusy() {
        CowMemory x = full(true);
        dueForAll("attach", x::attach, PLACES_ALIVE, WRONG, BAD);
    }

    static void badComesBeforeUnmapped() {
        CowMemory x = new CowMemory(2);
        x.map(0, 1, false);
        dueForAll("attach", x::attach, WRONG, PLACES_ALIVE, BAD);
        dueForAll("attach", x::attach, PLACES_ALIVE, WRONG, BAD);
    }

    static void deadComesBeforeBusy() {
        CowMemory x = new CowMemory(2);
        x.map(0, 0, true);
        due("attach(0, 8)", x.attach(0, 8), DEAD);
        x.fork(0, 3);
        x.exit(3);
        due("attach(0, 24)", x.attach(0, 24), DEAD);
    }

    static void deadComesBeforeUnmapped() {
        CowMemory x = new CowMemory(2);
        x.map(0, 1, false);
        due("attach(8, 0), not mapped", x.attach(8, 0), DEAD);
        due("attach(8, 1), private", x.attach(8, 1), DEAD);
        due("attach(0, 8), neither alive nor mapped", x.attach(0, 8), DEAD);
    }

    static void busyComesBeforeUnmapped() {
        CowMemory x = new CowMemory(2);
        x.map(0, 0, true);
        x.map(0, 1, false);
        due("attach(0, 2), not mapped", x.attach(0, 2), BUSY);
        due("attach(0, 1), private", x.attach(0, 1), BUSY);
        due("attach(1, 1), private and itself", x.attach(1, 1), BUSY);
    }
}
