import java.util.Collections;
import java.util.IdentityHashMap;
import java.util.Set;

// The document told a second time, with an object for each page and each sheet, to be held against the class.
final class Model {
    private static final class Page {
        final int[] sheet;
        final boolean shared;

        Page(int[] sheet, boolean shared) {
            this.sheet = sheet;
            this.shared = shared;
        }
    }

    // A process that is not alive has no row; a page that is not mapped has no object.
    private final Page[][] processes = new Page[4][];

    Model() {
        processes[0] = new Page[5];
    }

    private static boolean within(int number, int count) {
        return number >= 0 && number < count;
    }

    private Page find(int p, int page) {
        return within(p, 4) && within(page, 5) && processes[p] != null ? processes[p][page] : null;
    }

    private int whyNoPage(int p, int page) {
        if (!within(p, 4) || !within(page, 5)) {
            return -1;
        }
        return processes[p] == null ? -2 : -3;
    }

    int map(int p, int page, boolean shared) {
        if (find(p, page) != null) {
            return -4;
        }
        int why = whyNoPage(p, page);
        if (why != -3) {
            return why;
        }
        processes[p][page] = new Page(new int[4], shared);
        return page;
    }

    int unmap(int p, int page) {
        if (find(p, page) == null) {
            return whyNoPage(p, page);
        }
        processes[p][page] = null;
        return page;
    }

    int attach(int at, int from) {
        if (at < 0 || from < 0 || at / 8 > 3 || from / 8 > 3 || at % 8 > 4 || from % 8 > 4) {
            return -1;
        }
        if (processes[at / 8] == null || processes[from / 8] == null) {
            return -2;
        }
        if (processes[at / 8][at % 8] != null) {
            return -4;
        }
        Page source = processes[from / 8][from % 8];
        if (source == null || !source.shared) {
            return -3;
        }
        processes[at / 8][at % 8] = new Page(source.sheet, true);
        return at % 8;
    }

    int fork(int p, int q) {
        if (!within(p, 4) || !within(q, 4)) {
            return -1;
        }
        if (processes[p] == null) {
            return -2;
        }
        if (processes[q] != null) {
            return -4;
        }
        processes[q] = new Page[5];
        for (int page = 0; page < 5; page++) {
            Page source = processes[p][page];
            if (source != null) {
                processes[q][page] = new Page(source.shared ? source.sheet : source.sheet.clone(), source.shared);
            }
        }
        return mappedPages(q);
    }

    int exit(int p) {
        if (!within(p, 4)) {
            return -1;
        }
        if (processes[p] == null) {
            return -2;
        }
        int had = mappedPages(p);
        processes[p] = null;
        return had;
    }

    private int mappedPages(int p) {
        int count = 0;
        for (Page page : processes[p]) {
            count += page == null ? 0 : 1;
        }
        return count;
    }

    int write(int p, int cell, int value) {
        int number = Math.floorDiv(cell, 4);
        Page page = find(p, number);
        if (page == null) {
            return whyNoPage(p, number);
        }
        page.sheet[cell % 4] = value;
        return cell;
    }

    int read(int p, int cell) {
        Page page = find(p, Math.floorDiv(cell, 4));
        return page == null ? 0 : page.sheet[cell % 4];
    }

    boolean isMapped(int p, int page) {
        return find(p, page) != null;
    }

    int showing(int p, int page) {
        Page asked = find(p, page);
        if (asked == null) {
            return whyNoPage(p, page);
        }
        int count = 0;
        for (int slot = 0; slot < 20; slot++) {
            Page other = find(slot / 5, slot % 5);
            count += other != null && other.sheet == asked.sheet ? 1 : 0;
        }
        return count;
    }

    private Set<int[]> shown() {
        Set<int[]> sheets = Collections.newSetFromMap(new IdentityHashMap<>());
        for (int slot = 0; slot < 20; slot++) {
            Page page = find(slot / 5, slot % 5);
            if (page != null) {
                sheets.add(page.sheet);
            }
        }
        return sheets;
    }

    long total() {
        long sum = 0;
        for (int[] sheet : shown()) {
            for (int value : sheet) {
                sum += value;
            }
        }
        return sum;
    }

    int sheets() {
        return shown().size();
    }
}
