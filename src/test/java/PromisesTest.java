import java.util.ArrayList;
import java.util.List;
import java.util.function.ToIntFunction;

// One method for each promise of the document: ordinary inputs, the named edges, and wrong inputs.
public final class PromisesTest {
    private static final int BAD = -1;
    private static final int DEAD = -2;
    private static final int UNMAPPED = -3;
    private static final int BUSY = -4;
    private static final int LOW = Integer.MIN_VALUE;
    private static final int HIGH = Integer.MAX_VALUE;
    private static final int[] NO_PROCESS = {-1, 4, 5, -4, 8, LOW, HIGH};
    private static final int[] NO_PAGE = {-1, 5, 6, 7, 8, -5, LOW, HIGH};
    private static final int[] NO_CELL = {-1, 20, 21, 23, -20, LOW, HIGH};

    private static final Answers answers = new Answers();

    public static void main(String[] args) {
        newObject();
        newObjectWithAnyFrames();
        map();
        mapRefuses();
        mapGivesAClearSheet();
        unmap();
        attach();
        attachRefuses();
        attachWithNumbersOutOfRange();
        fork();
        forkOfForks();
        forkRefuses();
        exit();
        write();
        writeRefuses();
        read();
        isMapped();
        showing();
        total();
        sheets();
        refusedCallsChangeNothing();
        answers.finish();
    }

    private static void due(String call, long got, long want) {
        answers.due(call, got, want);
    }

    // Promise 1

    private static void newObject() {
        CowMemory x = new CowMemory(3);
        for (int page = 0; page < 5; page++) {
            answers.due("1: isMapped on a new object", x.isMapped(0, page), false);
            due("1: showing(0, page) on a new object", x.showing(0, page), UNMAPPED);
        }
        for (int p = 1; p < 4; p++) {
            due("1: showing of process " + p, x.showing(p, 0), DEAD);
        }
        due("1: total of a new object", x.total(), 0);
        due("1: sheets of a new object", x.sheets(), 0);
        due("1: process 0 is alive", x.exit(0), 0);
    }

    private static void newObjectWithAnyFrames() {
        String want = state(fullOfPrivatePages(2));
        for (int frames : new int[] {LOW, -1, 0, 1, 3, 4, 5, 6, 7, 20, 21, HIGH}) {
            answers.due("1: state with " + frames + " frames", state(fullOfPrivatePages(frames)), want);
        }
    }

    private static CowMemory fullOfPrivatePages(int frames) {
        CowMemory x = new CowMemory(frames);
        for (int page = 0; page < 5; page++) {
            x.map(0, page, false);
        }
        for (int q = 1; q < 4; q++) {
            x.fork(0, q);
        }
        for (int p = 0; p < 4; p++) {
            for (int cell = 0; cell < 20; cell++) {
                x.write(p, cell, 100 * p + cell + 1);
            }
        }
        return x;
    }

    // Promise 2

    private static void map() {
        CowMemory x = new CowMemory(2);
        for (int page = 0; page < 5; page++) {
            due("2: map(0, " + page + ")", x.map(0, page, page % 2 == 0), page);
            answers.due("2: isMapped after map", x.isMapped(0, page), true);
            due("2: showing after map", x.showing(0, page), 1);
            due("2: sheets after map", x.sheets(), page + 1);
        }
        for (int cell = 0; cell < 20; cell++) {
            due("2: read of a new sheet", x.read(0, cell), 0);
        }
        due("2: a shared page is copied as shared", x.fork(0, 1), 5);
        due("2: page 0 was mapped as shared", x.showing(0, 0), 2);
        due("2: page 1 was mapped as private", x.showing(0, 1), 1);
    }

    private static void mapRefuses() {
        CowMemory x = new CowMemory(2);
        for (int p : NO_PROCESS) {
            due("2: map(" + p + ", 0)", x.map(p, 0, true), BAD);
        }
        for (int page : NO_PAGE) {
            due("2: map(0, " + page + ")", x.map(0, page, false), BAD);
            due("2: map(1, " + page + "), not alive", x.map(1, page, false), BAD);
        }
        for (int p = 1; p < 4; p++) {
            due("2: map(" + p + ", 0), not alive", x.map(p, 0, false), DEAD);
        }
        x.map(0, 4, false);
        due("2: map of a mapped page", x.map(0, 4, false), BUSY);
        due("2: map of a mapped page as shared", x.map(0, 4, true), BUSY);
    }

    private static void mapGivesAClearSheet() {
        CowMemory x = fullOfPrivatePages(2);
        for (int p = 0; p < 4; p++) {
            for (int page = 0; page < 5; page++) {
                due("3: unmap of a page of process " + p, x.unmap(p, page), page);
                due("2: map again", x.map(p, page, true), page);
                for (int cell = 4 * page; cell < 4 * page + 4; cell++) {
                    due("2: read after map again", x.read(p, cell), 0);
                }
            }
        }
        due("2: total after all were mapped again", x.total(), 0);
        due("2: sheets after all were mapped again", x.sheets(), 20);
    }

    // Promise 3

    private static void unmap() {
        CowMemory x = new CowMemory(2);
        x.map(0, 0, true);
        x.map(0, 4, false);
        x.attach(2, 0);
        x.write(0, 0, 9);
        for (int p : NO_PROCESS) {
            due("3: unmap(" + p + ", 0)", x.unmap(p, 0), BAD);
        }
        for (int page : NO_PAGE) {
            due("3: unmap(0, " + page + ")", x.unmap(0, page), BAD);
            due("3: unmap(3, " + page + "), not alive", x.unmap(3, page), BAD);
        }
        due("3: unmap(3, 0), not alive", x.unmap(3, 0), DEAD);
        due("3: unmap(0, 1), not mapped", x.unmap(0, 1), UNMAPPED);
        due("3: unmap(0, 0)", x.unmap(0, 0), 0);
        answers.due("3: isMapped after unmap", x.isMapped(0, 0), false);
        due("3: unmap(0, 0) again", x.unmap(0, 0), UNMAPPED);
        due("3: the other page keeps the sheet", x.read(0, 8), 9);
        due("3: the other page shows alone", x.showing(0, 2), 1);
        due("3: unmap(0, 4)", x.unmap(0, 4), 4);
        due("3: unmap(0, 2)", x.unmap(0, 2), 2);
        due("3: sheets when none is mapped", x.sheets(), 0);
    }

    // Promise 4

    private static void attach() {
        CowMemory x = new CowMemory(2);
        x.fork(0, 3);
        x.map(0, 4, true);
        x.write(0, 18, 5);
        due("4: attach(24, 4), process 3 to process 0", x.attach(24, 4), 0);
        due("4: attach(28, 24), within process 3", x.attach(28, 24), 4);
        due("4: attach(2, 28), from an attached page", x.attach(2, 28), 2);
        due("4: read through page 0 of 3", x.read(3, 2), 5);
        due("4: read through page 4 of 3", x.read(3, 18), 5);
        due("4: read through page 2 of 0", x.read(0, 10), 5);
        due("4: write through page 2 of 0", x.write(0, 11, -6), 11);
        due("4: read what page 2 wrote, through page 4 of 0", x.read(0, 19), -6);
        due("4: read what page 2 wrote, through page 0 of 3", x.read(3, 3), -6);
        due("4: showing", x.showing(0, 4), 4);
        due("4: sheets", x.sheets(), 1);
        due("4: total", x.total(), -1);
        due("4: fork of the attached pages", x.fork(3, 1), 2);
        due("4: an attached page is shared", x.showing(1, 0), 6);
    }

    private static void attachRefuses() {
        CowMemory x = new CowMemory(2);
        x.map(0, 0, true);
        x.map(0, 1, false);
        x.fork(0, 1);
        due("4: attach to a process that is not alive", x.attach(16, 0), DEAD);
        due("4: attach from a process that is not alive", x.attach(2, 16), DEAD);
        due("4: DEAD comes before BUSY", x.attach(0, 16), DEAD);
        due("4: DEAD comes before UNMAPPED", x.attach(16, 4), DEAD);
        due("4: attach to a mapped page", x.attach(1, 0), BUSY);
        due("4: attach of a page to itself", x.attach(0, 0), BUSY);
        due("4: BUSY comes before UNMAPPED", x.attach(1, 4), BUSY);
        due("4: BUSY comes before UNMAPPED for a private page", x.attach(0, 9), BUSY);
        due("4: attach from a page that is not mapped", x.attach(2, 12), UNMAPPED);
        due("4: attach of an unmapped page to itself", x.attach(2, 2), UNMAPPED);
        due("4: attach from a private page", x.attach(2, 1), UNMAPPED);
        due("4: attach from a private page of another process", x.attach(2, 9), UNMAPPED);
        x.unmap(0, 0);
        due("4: attach from a page that was shared", x.attach(2, 0), UNMAPPED);
        x.map(0, 0, false);
        due("4: attach from a page that is now private", x.attach(2, 0), UNMAPPED);
    }

    private static void attachWithNumbersOutOfRange() {
        CowMemory x = new CowMemory(2);
        x.map(0, 0, true);
        int[] wrong = {-1, -8, -7, LOW, LOW + 1, 5, 6, 7, 13, 15, 21, 29, 30, 31, 32, 33, 36, 40, 64, 256, HIGH, HIGH - 7};
        for (int number : wrong) {
            due("4: attach(" + number + ", 0)", x.attach(number, 0), BAD);
            due("4: attach(1, " + number + ")", x.attach(1, number), BAD);
            due("4: BAD comes before BUSY, from " + number, x.attach(0, number), BAD);
            due("4: BAD comes before DEAD, at " + number, x.attach(number, 8), BAD);
            due("4: BAD comes before DEAD, from " + number, x.attach(8, number), BAD);
        }
    }

    // Promise 5

    private static void fork() {
        CowMemory x = new CowMemory(2);
        x.map(0, 1, false);
        x.map(0, 2, true);
        x.map(0, 4, false);
        for (int cell = 0; cell < 20; cell++) {
            x.write(0, cell, 50 + cell);
        }
        due("5: fork(0, 2)", x.fork(0, 2), 3);
        answers.due("5: a page that p has not mapped", x.isMapped(2, 0), false);
        for (int cell = 0; cell < 20; cell++) {
            due("5: read(2, " + cell + ")", x.read(2, cell), x.read(0, cell));
        }
        due("5: sheets", x.sheets(), 5);
        due("5: showing of a private page", x.showing(2, 1), 1);
        due("5: showing of a shared page", x.showing(2, 2), 2);
        x.write(2, 4, 1);
        x.write(0, 5, 2);
        x.write(2, 8, 3);
        x.write(0, 9, 4);
        due("5: a private write of q is not seen by p", x.read(0, 4), 54);
        due("5: a private write of p is not seen by q", x.read(2, 5), 55);
        due("5: a shared write of q is seen by p", x.read(0, 8), 3);
        due("5: a shared write of p is seen by q", x.read(2, 9), 4);
        due("5: a private page of q is private", x.attach(3, 17), UNMAPPED);
        due("5: a shared page of q is shared", x.attach(3, 18), 3);
    }

    private static void forkOfForks() {
        CowMemory x = new CowMemory(2);
        due("5: fork with nothing mapped", x.fork(0, 1), 0);
        x.map(1, 0, false);
        x.map(1, 3, true);
        x.write(1, 0, 7);
        x.write(1, 12, 8);
        due("5: fork(1, 2)", x.fork(1, 2), 2);
        x.write(1, 0, 70);
        due("5: fork(2, 3)", x.fork(2, 3), 2);
        x.write(2, 0, 71);
        due("5: the copy of the copy", x.read(3, 0), 7);
        due("5: the copy", x.read(2, 0), 71);
        due("5: the first", x.read(1, 0), 70);
        due("5: the shared page of all three", x.showing(1, 3), 3);
        x.exit(1);
        due("5: a process comes to life again", x.fork(3, 1), 2);
        due("5: it has the values of its new parent", x.read(1, 0), 7);
        due("5: total", x.total(), 7 + 71 + 7 + 8);
        x.exit(2);
        due("5: a process comes to life again with nothing", x.fork(0, 2), 0);
        answers.due("5: it has none of its old pages", x.isMapped(2, 0), false);
    }

    private static void forkRefuses() {
        CowMemory x = new CowMemory(2);
        for (int p : NO_PROCESS) {
            due("5: fork(" + p + ", 1)", x.fork(p, 1), BAD);
            due("5: fork(0, " + p + ")", x.fork(0, p), BAD);
            due("5: fork(1, " + p + "), not alive", x.fork(1, p), BAD);
            due("5: fork(" + p + ", 0), alive", x.fork(p, 0), BAD);
        }
        due("5: fork(1, 2), not alive", x.fork(1, 2), DEAD);
        due("5: fork(1, 1), not alive", x.fork(1, 1), DEAD);
        due("5: DEAD comes before BUSY", x.fork(1, 0), DEAD);
        due("5: fork(0, 0)", x.fork(0, 0), BUSY);
        x.fork(0, 1);
        due("5: fork(0, 1) again", x.fork(0, 1), BUSY);
    }

    // Promise 6

    private static void exit() {
        CowMemory x = new CowMemory(2);
        for (int p : NO_PROCESS) {
            due("6: exit(" + p + ")", x.exit(p), BAD);
        }
        due("6: exit(1), not alive", x.exit(1), DEAD);
        x.map(0, 0, true);
        x.map(0, 2, false);
        x.map(0, 4, true);
        x.unmap(0, 4);
        x.write(0, 1, 3);
        x.fork(0, 1);
        due("6: exit(0)", x.exit(0), 2);
        due("6: exit(0) again", x.exit(0), DEAD);
        due("6: its page", x.showing(0, 0), DEAD);
        answers.due("6: its page is not mapped", x.isMapped(0, 0), false);
        due("6: map in it", x.map(0, 1, true), DEAD);
        due("6: write in it", x.write(0, 0, 1), DEAD);
        due("6: the shared sheet stays with the other process", x.read(1, 1), 3);
        due("6: showing in the other process", x.showing(1, 0), 1);
        due("6: sheets after exit", x.sheets(), 2);
        due("6: exit(1)", x.exit(1), 2);
        due("6: sheets when none is alive", x.sheets(), 0);
        due("6: total when none is alive", x.total(), 0);
        due("6: fork when none is alive", x.fork(0, 1), DEAD);
    }

    // Promise 7

    private static void write() {
        CowMemory x = new CowMemory(2);
        int[] values = {LOW, HIGH, -1, 1};
        for (int page = 0; page < 5; page++) {
            x.map(0, page, page == 2);
        }
        for (int cell = 0; cell < 20; cell++) {
            due("7: write(0, " + cell + ")", x.write(0, cell, values[cell % 4] - cell / 4), cell);
        }
        for (int cell = 0; cell < 20; cell++) {
            due("7: read(0, " + cell + ")", x.read(0, cell), values[cell % 4] - cell / 4);
        }
        due("7: write again", x.write(0, 7, 0), 7);
        due("7: read after write again", x.read(0, 7), 0);
        due("7: its neighbour", x.read(0, 6), -2);
    }

    private static void writeRefuses() {
        CowMemory x = new CowMemory(2);
        x.map(0, 0, false);
        x.map(0, 4, false);
        for (int p : NO_PROCESS) {
            due("7: write(" + p + ", 0)", x.write(p, 0, 1), BAD);
        }
        for (int cell : NO_CELL) {
            due("7: write(0, " + cell + ")", x.write(0, cell, 1), BAD);
            due("7: write(1, " + cell + "), not alive", x.write(1, cell, 1), BAD);
        }
        due("7: write(1, 0), not alive", x.write(1, 0, 1), DEAD);
        due("7: write(0, 4), not mapped", x.write(0, 4, 1), UNMAPPED);
        due("7: write(0, 15), not mapped", x.write(0, 15, 1), UNMAPPED);
        due("7: total after refused writes", x.total(), 0);
    }

    // Promise 8

    private static void read() {
        CowMemory x = new CowMemory(2);
        for (int page = 0; page < 4; page++) {
            x.map(0, page, false);
            for (int cell = 4 * page; cell < 4 * page + 4; cell++) {
                x.write(0, cell, cell - 100);
            }
        }
        for (int cell = 0; cell < 16; cell++) {
            due("8: read(0, " + cell + ")", x.read(0, cell), cell - 100);
        }
        for (int p : NO_PROCESS) {
            due("8: read(" + p + ", 0)", x.read(p, 0), 0);
        }
        for (int cell : NO_CELL) {
            due("8: read(0, " + cell + ")", x.read(0, cell), 0);
        }
        due("8: read(1, 0), not alive", x.read(1, 0), 0);
        due("8: read(0, 16), not mapped", x.read(0, 16), 0);
        x.unmap(0, 0);
        due("8: read(0, 1), not mapped any more", x.read(0, 1), 0);
        x.exit(0);
        due("8: read(0, 5), not alive any more", x.read(0, 5), 0);
    }

    // Promise 9

    private static void isMapped() {
        CowMemory x = new CowMemory(2);
        x.map(0, 0, true);
        x.map(0, 4, false);
        x.fork(0, 3);
        x.unmap(3, 4);
        answers.due("9: isMapped(0, 0)", x.isMapped(0, 0), true);
        answers.due("9: isMapped(0, 1)", x.isMapped(0, 1), false);
        answers.due("9: isMapped(0, 4)", x.isMapped(0, 4), true);
        answers.due("9: isMapped(3, 0)", x.isMapped(3, 0), true);
        answers.due("9: isMapped(3, 4)", x.isMapped(3, 4), false);
        answers.due("9: isMapped(1, 0), not alive", x.isMapped(1, 0), false);
        for (int p : NO_PROCESS) {
            answers.due("9: isMapped(" + p + ", 0)", x.isMapped(p, 0), false);
        }
        for (int page : NO_PAGE) {
            answers.due("9: isMapped(0, " + page + ")", x.isMapped(0, page), false);
        }
        x.exit(3);
        answers.due("9: isMapped(3, 0), not alive any more", x.isMapped(3, 0), false);
    }

    // Promise 10

    private static void showing() {
        CowMemory x = new CowMemory(2);
        x.map(0, 0, true);
        x.map(0, 1, false);
        for (int page = 2; page < 5; page++) {
            x.attach(page, 0);
            due("10: showing after attach", x.showing(0, 0), page);
        }
        for (int q = 1; q < 4; q++) {
            x.fork(0, q);
            due("10: showing after fork", x.showing(q, 4), 4 * (q + 1));
            due("10: showing of a private page after fork", x.showing(0, 1), 1);
        }
        x.unmap(2, 3);
        due("10: showing after unmap", x.showing(1, 2), 15);
        due("10: showing(2, 3), not mapped", x.showing(2, 3), UNMAPPED);
        x.exit(2);
        due("10: showing after exit", x.showing(1, 2), 12);
        due("10: showing(2, 0), not alive", x.showing(2, 0), DEAD);
        for (int p : NO_PROCESS) {
            due("10: showing(" + p + ", 0)", x.showing(p, 0), BAD);
        }
        for (int page : NO_PAGE) {
            due("10: showing(0, " + page + ")", x.showing(0, page), BAD);
            due("10: showing(2, " + page + "), not alive", x.showing(2, page), BAD);
        }
    }

    // Promise 11

    private static void total() {
        totalOfAllCells(HIGH);
        totalOfAllCells(LOW);
        CowMemory x = new CowMemory(2);
        x.map(0, 0, true);
        x.write(0, 0, 40);
        x.write(0, 3, -2);
        x.attach(1, 0);
        due("11: a sheet that two pages show is taken once", x.total(), 38);
        x.map(0, 4, false);
        x.write(0, 19, 5);
        x.fork(0, 1);
        due("11: each copy of a private page is taken", x.total(), 48);
        x.unmap(0, 4);
        due("11: a sheet that no page shows is not taken", x.total(), 43);
        x.unmap(0, 0);
        due("11: a sheet that some page still shows is taken", x.total(), 43);
        x.exit(1);
        due("11: total after exit", x.total(), 38);
    }

    private static void totalOfAllCells(int value) {
        CowMemory x = new CowMemory(2);
        for (int page = 0; page < 5; page++) {
            x.map(0, page, false);
        }
        for (int cell = 0; cell < 20; cell++) {
            x.write(0, cell, value);
        }
        for (int q = 1; q < 4; q++) {
            x.fork(0, q);
        }
        due("11: total of 80 cells of " + value, x.total(), 80L * value);
    }

    // Promise 12

    private static void sheets() {
        CowMemory x = new CowMemory(2);
        x.map(0, 0, true);
        x.attach(1, 0);
        due("12: one sheet that two pages show", x.sheets(), 1);
        x.map(0, 2, true);
        x.map(0, 3, false);
        x.map(0, 4, false);
        due("12: sheets with equal values are different", x.sheets(), 4);
        x.fork(0, 1);
        x.fork(1, 2);
        x.fork(2, 3);
        due("12: sheets after forks", x.sheets(), 10);
        x.unmap(3, 0);
        due("12: a sheet that others show stays", x.sheets(), 10);
        x.unmap(3, 3);
        due("12: a sheet that no other page shows goes", x.sheets(), 9);
        x.exit(2);
        due("12: sheets after exit", x.sheets(), 7);
        due("12: sheets with all pages private", fullOfPrivatePages(2).sheets(), 20);
    }

    // Promise 13

    private static void refusedCallsChangeNothing() {
        List<ToIntFunction<CowMemory>> calls = refusedCalls();
        String want = state(mixedPages());
        String wantAfterwards = state(usedFurther(mixedPages()));
        for (int i = 0; i < calls.size(); i++) {
            CowMemory x = mixedPages();
            answers.due("13: call " + i + " is refused", calls.get(i).applyAsInt(x) < 0, true);
            answers.due("13: state after refused call " + i, state(x), want);
            CowMemory y = mixedPages();
            calls.get(i).applyAsInt(y);
            answers.due("13: later state after refused call " + i, state(usedFurther(y)), wantAfterwards);
        }
    }

    // Processes 0 and 1 are alive, with shared, private and unmapped pages; 2 has lived, 3 has not.
    private static CowMemory mixedPages() {
        CowMemory x = new CowMemory(2);
        x.map(0, 0, true);
        x.map(0, 1, false);
        x.map(0, 2, true);
        x.attach(3, 2);
        for (int cell = 0; cell < 16; cell++) {
            x.write(0, cell, 11 * cell + 1);
        }
        x.fork(0, 1);
        x.fork(0, 2);
        x.write(1, 4, -77);
        x.unmap(1, 0);
        x.exit(2);
        return x;
    }

    // What a refused call may have changed behind the answers shows when pages are copied and attached.
    private static CowMemory usedFurther(CowMemory x) {
        for (int from = 0; from < 4; from++) {
            if (x.attach(4, from) == 4) {
                x.write(0, 16, x.read(0, 16) + 1);
                x.unmap(0, 4);
            }
        }
        x.fork(0, 2);
        x.fork(1, 3);
        x.write(2, 4, 1000);
        x.write(3, 8, 2000);
        x.map(3, 0, false);
        return x;
    }

    private static List<ToIntFunction<CowMemory>> refusedCalls() {
        List<ToIntFunction<CowMemory>> calls = new ArrayList<>();
        for (int p : new int[] {-1, 4, 2, 3}) {
            calls.add(x -> x.map(p, 4, true));
            calls.add(x -> x.unmap(p, 0));
            calls.add(x -> x.attach(8 * p + 4, 0));
            calls.add(x -> x.attach(4, 8 * p));
            calls.add(x -> x.fork(p, 3));
            calls.add(x -> x.exit(p));
            calls.add(x -> x.write(p, 0, 5));
            calls.add(x -> x.showing(p, 0));
        }
        for (int page : new int[] {-1, 5}) {
            calls.add(x -> x.map(0, page, true));
            calls.add(x -> x.unmap(0, page));
            calls.add(x -> x.attach(page, 0));
            calls.add(x -> x.attach(4, page));
            calls.add(x -> x.write(0, 4 * page + 3, 5));
            calls.add(x -> x.showing(0, page));
        }
        for (int q : new int[] {-1, 0, 1, 4}) {
            calls.add(x -> x.fork(0, q));
        }
        calls.add(x -> x.map(0, 0, false));
        calls.add(x -> x.map(0, 1, true));
        calls.add(x -> x.unmap(0, 4));
        calls.add(x -> x.attach(1, 0));
        calls.add(x -> x.attach(0, 2));
        calls.add(x -> x.attach(4, 1));
        calls.add(x -> x.attach(4, 8));
        calls.add(x -> x.write(0, 16, 5));
        calls.add(x -> x.write(1, 0, 5));
        calls.add(x -> x.showing(1, 0));
        return calls;
    }

    // All that the asking calls tell; 122 of the 512 calls that an object is good for.
    private static String state(CowMemory x) {
        StringBuilder text = new StringBuilder();
        for (int p = 0; p < 4; p++) {
            for (int page = 0; page < 5; page++) {
                text.append(x.isMapped(p, page) ? '+' : '-').append(x.showing(p, page)).append(' ');
            }
            for (int cell = 0; cell < 20; cell++) {
                text.append(x.read(p, cell)).append(' ');
            }
        }
        return text.append(x.total()).append(' ').append(x.sheets()).toString();
    }
}
