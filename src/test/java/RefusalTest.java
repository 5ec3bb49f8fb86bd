import java.util.function.Supplier;
import java.util.function.ToIntFunction;

// Promise 13: a call that is refused changes nothing. Each refusal that the promises 2 to 10 name is a case.
public final class RefusalTest extends Cases {
    public static void main(String[] args) {
        run(RefusalTest.class);
    }

    // Processes 0 and 1 are alive, with shared, private and unmapped pages; 2 has lived, 3 has not.
    private static CowMemory mixed() {
        CowMemory x = new CowMemory(2);
        x.map(0, 0, true);
        x.map(0, 1, false);
        x.map(0, 2, true);
        x.attach(3, 2);
        for (int cell = 0; cell < 16; cell++) {
            x.write(0, cell, 11 * cell + 1);
        }
        x.fork(0, 1);
        x.fork(0, 2);
        x.write(1, 4, -77);
        x.unmap(1, 0);
        x.exit(2);
        return x;
    }

    private static CowMemory fullOfPrivatePages() {
        CowMemory x = full(false);
        writeAll(x);
        return x;
    }

    private static CowMemory fullOfSharedPages() {
        CowMemory x = full(true);
        writeAll(x);
        return x;
    }

    private static CowMemory noneAlive() {
        CowMemory x = mixed();
        x.exit(0);
        x.exit(1);
        return x;
    }

    private static void changesNothing(String call, int want, ToIntFunction<CowMemory> refused) {
        changesNothing(RefusalTest::mixed, call, want, refused);
    }

    private static void changesNothing(Supplier<CowMemory> start, String call, int want, ToIntFunction<CowMemory> refused) {
        CowMemory x = start.get();
        String before = state(x);
        due(call, refused.applyAsInt(x), want);
        due("state after " + call, state(x), before);
        CowMemory y = start.get();
        refused.applyAsInt(y);
        due("later state after " + call, laterState(y), laterState(start.get()));
    }

    // What a refused call may have changed behind the answers shows when pages are attached, forked and mapped.
    private static String laterState(CowMemory x) {
        StringBuilder attached = new StringBuilder();
        for (int slot = 0; slot < 20; slot++) {
            int answer = x.attach(4, 8 * (slot / 5) + slot % 5);
            attached.append(answer).append(' ');
            if (answer == 4) {
                x.write(0, 16, x.read(0, 16) + 1);
                x.unmap(0, 4);
            }
        }
        x.fork(0, 2);
        x.fork(1, 3);
        x.write(2, 4, 1000);
        x.write(3, 8, 2000);
        x.map(3, 0, false);
        return attached + state(x);
    }

    // map

    static void aMapThatIsBadForItsProcess() {
        changesNothing("map(-1, 4, true)", BAD, x -> x.map(-1, 4, true));
        changesNothing("map(4, 4, true)", BAD, x -> x.map(4, 4, true));
    }

    static void aMapThatIsBadForItsPage() {
        changesNothing("map(1, -1, true)", BAD, x -> x.map(1, -1, true));
        changesNothing("map(0, 5, true)", BAD, x -> x.map(0, 5, true));
    }

    static void aMapThatIsDead() {
        changesNothing("map(2, 4, true)", DEAD, x -> x.map(2, 4, true));
        changesNothing("map(3, 4, true)", DEAD, x -> x.map(3, 4, true));
    }

    static void aMapThatIsBusy() {
        changesNothing("map(0, 0, true), shared", BUSY, x -> x.map(0, 0, true));
        changesNothing("map(0, 0, false), shared", BUSY, x -> x.map(0, 0, false));
        changesNothing("map(0, 1, true), private", BUSY, x -> x.map(0, 1, true));
        changesNothing("map(0, 1, false), private", BUSY, x -> x.map(0, 1, false));
        changesNothing("map(0, 3, false), attached", BUSY, x -> x.map(0, 3, false));
    }

    // unmap

    static void anUnmapThatIsBadForItsProcess() {
        changesNothing("unmap(-1, 0)", BAD, x -> x.unmap(-1, 0));
        changesNothing("unmap(4, 0)", BAD, x -> x.unmap(4, 0));
    }

    static void anUnmapThatIsBadForItsPage() {
        changesNothing("unmap(1, -1)", BAD, x -> x.unmap(1, -1));
        changesNothing("unmap(0, 6)", BAD, x -> x.unmap(0, 6));
    }

    static void anUnmapThatIsDead() {
        changesNothing("unmap(2, 0)", DEAD, x -> x.unmap(2, 0));
        changesNothing("unmap(3, 0)", DEAD, x -> x.unmap(3, 0));
    }

    static void anUnmapThatIsUnmapped() {
        changesNothing("unmap(0, 4)", UNMAPPED, x -> x.unmap(0, 4));
        changesNothing("unmap(1, 0)", UNMAPPED, x -> x.unmap(1, 0));
    }

    // attach

    static void anAttachThatIsBadForItsAt() {
        changesNothing("attach(-4, 0)", BAD, x -> x.attach(-4, 0));
        changesNothing("attach(5, 0)", BAD, x -> x.attach(5, 0));
        changesNothing("attach(36, 0)", BAD, x -> x.attach(36, 0));
    }

    static void anAttachThatIsBadForItsFrom() {
        changesNothing("attach(4, -8)", BAD, x -> x.attach(4, -8));
        changesNothing("attach(4, 6)", BAD, x -> x.attach(4, 6));
        changesNothing("attach(4, 32)", BAD, x -> x.attach(4, 32));
    }

    static void anAttachThatIsDeadForItsAt() {
        changesNothing("attach(20, 0)", DEAD, x -> x.attach(20, 0));
        changesNothing("attach(28, 0)", DEAD, x -> x.attach(28, 0));
    }

    static void anAttachThatIsDeadForItsFrom() {
        changesNothing("attach(4, 16)", DEAD, x -> x.attach(4, 16));
        changesNothing("attach(4, 24)", DEAD, x -> x.attach(4, 24));
    }

    static void anAttachThatIsBusy() {
        changesNothing("attach(1, 0), private", BUSY, x -> x.attach(1, 0));
        changesNothing("attach(0, 2), shared", BUSY, x -> x.attach(0, 2));
        changesNothing("attach(3, 2), attached to it", BUSY, x -> x.attach(3, 2));
        changesNothing("attach(1, 1), itself", BUSY, x -> x.attach(1, 1));
    }

    static void anAttachThatIsUnmapped() {
        changesNothing("attach(4, 8), not mapped", UNMAPPED, x -> x.attach(4, 8));
        changesNothing("attach(4, 4), itself", UNMAPPED, x -> x.attach(4, 4));
    }

    static void anAttachThatIsUnmappedForAPrivatePage() {
        changesNothing("attach(4, 1)", UNMAPPED, x -> x.attach(4, 1));
        changesNothing("attach(4, 9)", UNMAPPED, x -> x.attach(4, 9));
    }

    // fork

    static void aForkThatIsBad() {
        changesNothing("fork(-1, 3)", BAD, x -> x.fork(-1, 3));
        changesNothing("fork(4, 3)", BAD, x -> x.fork(4, 3));
        changesNothing("fork(0, -1)", BAD, x -> x.fork(0, -1));
        changesNothing("fork(0, 4)", BAD, x -> x.fork(0, 4));
    }

    static void aForkThatIsDead() {
        changesNothing("fork(2, 3)", DEAD, x -> x.fork(2, 3));
        changesNothing("fork(3, 2)", DEAD, x -> x.fork(3, 2));
        changesNothing("fork(3, 3)", DEAD, x -> x.fork(3, 3));
        changesNothing("fork(2, 0)", DEAD, x -> x.fork(2, 0));
    }

    static void aForkThatIsBusy() {
        changesNothing("fork(0, 1)", BUSY, x -> x.fork(0, 1));
        changesNothing("fork(1, 0)", BUSY, x -> x.fork(1, 0));
        changesNothing("fork(0, 0)", BUSY, x -> x.fork(0, 0));
    }

    // exit

    static void anExitThatIsBad() {
        changesNothing("exit(-1)", BAD, x -> x.exit(-1));
        changesNothing("exit(4)", BAD, x -> x.exit(4));
    }

    static void anExitThatIsDead() {
        changesNothing("exit(2)", DEAD, x -> x.exit(2));
        changesNothing("exit(3)", DEAD, x -> x.exit(3));
    }

    // write

    static void aWriteThatIsBadForItsProcess() {
        changesNothing("write(-1, 0, 5)", BAD, x -> x.write(-1, 0, 5));
        changesNothing("write(4, 0, 5)", BAD, x -> x.write(4, 0, 5));
    }

    static void aWriteThatIsBadForItsCell() {
        changesNothing("write(1, -4, 5)", BAD, x -> x.write(1, -4, 5));
        changesNothing("write(0, -1, 5)", BAD, x -> x.write(0, -1, 5));
        changesNothing("write(0, 20, 5)", BAD, x -> x.write(0, 20, 5));
        changesNothing("write(0, 24, 5)", BAD, x -> x.write(0, 24, 5));
    }

    static void aWriteThatIsDead() {
        changesNothing("write(2, 0, 5)", DEAD, x -> x.write(2, 0, 5));
        changesNothing("write(3, 0, 5)", DEAD, x -> x.write(3, 0, 5));
    }

    static void aWriteThatIsUnmapped() {
        changesNothing("write(0, 16, 5)", UNMAPPED, x -> x.write(0, 16, 5));
        changesNothing("write(1, 0, 5)", UNMAPPED, x -> x.write(1, 0, 5));
    }

    // read, isMapped and showing

    static void aReadOfNoPage() {
        changesNothing("read(4, 0)", 0, x -> x.read(4, 0));
        changesNothing("read(0, 20)", 0, x -> x.read(0, 20));
        changesNothing("read(2, 0)", 0, x -> x.read(2, 0));
        changesNothing("read(0, 16)", 0, x -> x.read(0, 16));
    }

    static void anIsMappedOfNoPage() {
        changesNothing("isMapped(4, 0)", 0, x -> x.isMapped(4, 0) ? 1 : 0);
        changesNothing("isMapped(0, 5)", 0, x -> x.isMapped(0, 5) ? 1 : 0);
        changesNothing("isMapped(2, 0)", 0, x -> x.isMapped(2, 0) ? 1 : 0);
        changesNothing("isMapped(0, 4)", 0, x -> x.isMapped(0, 4) ? 1 : 0);
    }

    static void aShowingOfNoPage() {
        changesNothing("showing(4, 0)", BAD, x -> x.showing(4, 0));
        changesNothing("showing(0, 5)", BAD, x -> x.showing(0, 5));
        changesNothing("showing(2, 0)", DEAD, x -> x.showing(2, 0));
        changesNothing("showing(0, 4)", UNMAPPED, x -> x.showing(0, 4));
    }

    // "or a limit is reached": every page is mapped and every process is alive, or none is.

    static void everythingThatIsRefusedWhenAllPagesArePrivate() {
        refusedWhenFull(RefusalTest::fullOfPrivatePages);
    }

    static void everythingThatIsRefusedWhenAllPagesAreShared() {
        refusedWhenFull(RefusalTest::fullOfSharedPages);
    }

    private static void refusedWhenFull(Supplier<CowMemory> start) {
        for (int p = 0; p < 4; p++) {
            int process = p;
            changesNothing(start, "map(" + p + ", 4, true)", BUSY, x -> x.map(process, 4, true));
            changesNothing(start, "map(" + p + ", 0, false)", BUSY, x -> x.map(process, 0, false));
            changesNothing(start, "attach(8 * " + p + ", 1)", BUSY, x -> x.attach(8 * process, 1));
            changesNothing(start, "fork(0, " + p + ")", BUSY, x -> x.fork(0, process));
        }
        changesNothing(start, "map(0, 5, true)", BAD, x -> x.map(0, 5, true));
        changesNothing(start, "map(1, -1, true)", BAD, x -> x.map(1, -1, true));
        changesNothing(start, "unmap(1, -1)", BAD, x -> x.unmap(1, -1));
        changesNothing(start, "unmap(0, 5)", BAD, x -> x.unmap(0, 5));
        changesNothing(start, "attach(5, 0)", BAD, x -> x.attach(5, 0));
        changesNothing(start, "fork(0, 4)", BAD, x -> x.fork(0, 4));
        changesNothing(start, "exit(4)", BAD, x -> x.exit(4));
        changesNothing(start, "write(0, 20, 5)", BAD, x -> x.write(0, 20, 5));
        changesNothing(start, "write(1, -1, 5)", BAD, x -> x.write(1, -1, 5));
    }

    static void everythingIsRefusedWhenNoneIsAlive() {
        for (int p = 0; p < 4; p++) {
            int process = p;
            changesNothing(RefusalTest::noneAlive, "map(" + p + ", 0, true)", DEAD, x -> x.map(process, 0, true));
            changesNothing(RefusalTest::noneAlive, "unmap(" + p + ", 1)", DEAD, x -> x.unmap(process, 1));
            changesNothing(RefusalTest::noneAlive, "attach(8 * " + p + ", 2)", DEAD, x -> x.attach(8 * process, 2));
            changesNothing(RefusalTest::noneAlive, "fork(" + p + ", 3)", DEAD, x -> x.fork(process, 3));
            changesNothing(RefusalTest::noneAlive, "exit(" + p + ")", DEAD, x -> x.exit(process));
            changesNothing(RefusalTest::noneAlive, "write(" + p + ", 4, 5)", DEAD, x -> x.write(process, 4, 5));
        }
    }
}
