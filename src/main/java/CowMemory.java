// A fork copies private pages at once: when a copy is made shows in no answer, so the plainest time is taken.
public final class CowMemory {
    public static final int BAD = -1;
    public static final int DEAD = -2;
    public static final int UNMAPPED = -3;
    public static final int BUSY = -4;

    private static final int LEAST_FRAMES = 2;
    private static final int MOST_FRAMES = 6;
    private static final int PROCESSES = 4;
    private static final int PAGES = 5;
    private static final int CELLS = 4;
    // A slot is a page of a process, PAGES * p + page.
    private static final int SLOTS = PROCESSES * PAGES;
    // A sheet lives only while a slot shows it, so there are never more sheets than slots.
    private static final int SHEETS = SLOTS;
    private static final int SHEET_CELLS = SHEETS * CELLS;

    // LANGUAGE.md wants a capacity that is given kept in a field; as it shows in no answer, nothing reads it.
    private final int frames;
    private final boolean[] alive = new boolean[PROCESSES];
    private final boolean[] mapped = new boolean[SLOTS];
    private final boolean[] sharing = new boolean[SLOTS];
    private final int[] sheetOf = new int[SLOTS];
    private final int[] values = new int[SHEET_CELLS];

    public CowMemory(int frames) {
        this.frames = frames < LEAST_FRAMES ? LEAST_FRAMES : frames > MOST_FRAMES ? MOST_FRAMES : frames;
        alive[0] = true;
    }

    public int map(int p, int page, boolean shared) {
        int slot = liveSlot(p, page);
        if (slot < 0) {
            return slot;
        }
        if (mapped[slot]) {
            return BUSY;
        }
        int sheet = unshownSheet();
        clearSheet(sheet);
        placeSheet(slot, sheet, shared);
        return page;
    }

    public int unmap(int p, int page) {
        int slot = mappedSlot(p, page);
        if (slot < 0) {
            return slot;
        }
        mapped[slot] = false;
        return page;
    }

    // The shift keeps the sign, so a negative number unpacks to a negative process, which is BAD.
    public int attach(int at, int from) {
        int page = at & 7;
        int target = liveSlot(at >> 3, page);
        int source = liveSlot(from >> 3, from & 7);
        if (target == BAD || source == BAD) {
            return BAD;
        }
        if (target < 0 || source < 0) {
            return DEAD;
        }
        if (mapped[target]) {
            return BUSY;
        }
        if (!mapped[source] || !sharing[source]) {
            return UNMAPPED;
        }
        placeSheet(target, sheetOf[source], true);
        return page;
    }

    public int fork(int p, int q) {
        if (!isProcess(p) || !isProcess(q)) {
            return BAD;
        }
        if (!alive[p]) {
            return DEAD;
        }
        if (alive[q]) {
            return BUSY;
        }
        alive[q] = true;
        int copied = 0;
        for (int page = 0; page < PAGES; page++) {
            int source = PAGES * p + page;
            if (mapped[source]) {
                copyPage(source, PAGES * q + page);
                copied++;
            }
        }
        return copied;
    }

    public int exit(int p) {
        if (!isProcess(p)) {
            return BAD;
        }
        if (!alive[p]) {
            return DEAD;
        }
        alive[p] = false;
        int dropped = 0;
        for (int page = 0; page < PAGES; page++) {
            int slot = PAGES * p + page;
            if (mapped[slot]) {
                mapped[slot] = false;
                dropped++;
            }
        }
        return dropped;
    }

    // The shift keeps the sign and rounds down, so a cell is in 0..19 just when its page is in 0..4.
    public int write(int p, int cell, int value) {
        int slot = mappedSlot(p, cell >> 2);
        if (slot < 0) {
            return slot;
        }
        values[CELLS * sheetOf[slot] + (cell & 3)] = value;
        return cell;
    }

    public int read(int p, int cell) {
        int slot = mappedSlot(p, cell >> 2);
        if (slot < 0) {
            return 0;
        }
        return values[CELLS * sheetOf[slot] + (cell & 3)];
    }

    public boolean isMapped(int p, int page) {
        return mappedSlot(p, page) >= 0;
    }

    public int showing(int p, int page) {
        int slot = mappedSlot(p, page);
        if (slot < 0) {
            return slot;
        }
        return slotsShowing(sheetOf[slot]);
    }

    public long total() {
        long sum = 0;
        for (int sheet = 0; sheet < SHEETS; sheet++) {
            if (slotsShowing(sheet) > 0) {
                sum += sheetSum(sheet);
            }
        }
        return sum;
    }

    public int sheets() {
        int shown = 0;
        for (int sheet = 0; sheet < SHEETS; sheet++) {
            if (slotsShowing(sheet) > 0) {
                shown++;
            }
        }
        return shown;
    }

    private static boolean isProcess(int p) {
        return p >= 0 && p < PROCESSES;
    }

    private static boolean isPage(int page) {
        return page >= 0 && page < PAGES;
    }

    // Refusals are negative and slots are not, so one answer can be either.
    private int liveSlot(int p, int page) {
        if (!isProcess(p) || !isPage(page)) {
            return BAD;
        }
        if (!alive[p]) {
            return DEAD;
        }
        return PAGES * p + page;
    }

    private int mappedSlot(int p, int page) {
        int slot = liveSlot(p, page);
        if (slot >= 0 && !mapped[slot]) {
            return UNMAPPED;
        }
        return slot;
    }

    private int slotsShowing(int sheet) {
        int count = 0;
        for (int slot = 0; slot < SLOTS; slot++) {
            if (mapped[slot] && sheetOf[slot] == sheet) {
                count++;
            }
        }
        return count;
    }

    // Asked only while some slot is not mapped: then the other slots can't show every sheet,
    // and the last one needs no look when all before it are shown.
    private int unshownSheet() {
        int sheet = 0;
        while (sheet < SHEETS - 1 && slotsShowing(sheet) > 0) {
            sheet++;
        }
        return sheet;
    }

    private void clearSheet(int sheet) {
        for (int cell = 0; cell < CELLS; cell++) {
            values[CELLS * sheet + cell] = 0;
        }
    }

    private long sheetSum(int sheet) {
        long sum = 0;
        for (int cell = 0; cell < CELLS; cell++) {
            sum += values[CELLS * sheet + cell];
        }
        return sum;
    }

    private void placeSheet(int slot, int sheet, boolean shared) {
        mapped[slot] = true;
        sharing[slot] = shared;
        sheetOf[slot] = sheet;
    }

    private void copyPage(int source, int target) {
        int sheet = sheetOf[source];
        if (!sharing[source]) {
            sheet = copySheet(sheet);
        }
        placeSheet(target, sheet, sharing[source]);
    }

    private int copySheet(int original) {
        int copy = unshownSheet();
        for (int cell = 0; cell < CELLS; cell++) {
            values[CELLS * copy + cell] = values[CELLS * original + cell];
        }
        return copy;
    }
}
