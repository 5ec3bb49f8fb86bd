// Promise 12
public final class SheetsTest extends Cases {
    public static void main(String[] args) {
        run(SheetsTest.class);
    }

    // From none to 20

    static void aNewObjectShowsNone() {
        due("sheets()", new CowMemory(2).sheets(), 0);
    }

    static void eachNewPageShowsOneMore() {
        CowMemory x = new CowMemory(2);
        forkToAll(x);
        for (int slot = 0; slot < 20; slot++) {
            x.map(slot / 5, slot % 5, slot % 2 == 0);
            due("sheets()", x.sheets(), slot + 1);
        }
    }

    static void eachCopyOfAPrivatePageIsASheet() {
        due("sheets()", full(false).sheets(), 20);
    }

    static void allCopiesOfASharedPageAreOneSheet() {
        due("sheets()", full(true).sheets(), 5);
    }

    static void oneSheetThatAllPagesShow() {
        CowMemory x = new CowMemory(2);
        x.map(0, 0, true);
        for (int page = 1; page < 5; page++) {
            x.attach(page, 0);
            due("sheets()", x.sheets(), 1);
        }
        forkToAll(x);
        due("sheets() of 20 pages", x.sheets(), 1);
    }

    // "different" sheets are not the same because their values are.
    static void sheetsWithEqualValuesAreDifferent() {
        CowMemory x = new CowMemory(2);
        x.map(0, 0, true);
        x.map(0, 1, true);
        x.write(0, 0, 5);
        x.write(0, 4, 5);
        due("sheets()", x.sheets(), 2);
    }

    static void aSheetThatOthersShowStays() {
        CowMemory x = full(true);
        x.unmap(3, 0);
        due("sheets() after unmap", x.sheets(), 5);
        x.exit(0);
        due("sheets() after exit", x.sheets(), 5);
    }

    static void aSheetThatNoOtherPageShowsGoes() {
        CowMemory x = full(false);
        x.unmap(3, 0);
        due("sheets() after unmap", x.sheets(), 19);
        x.exit(0);
        due("sheets() after exit", x.sheets(), 14);
    }

    static void noneIsLeftWhenNoProcessIsAlive() {
        CowMemory x = full(false);
        for (int p = 0; p < 4; p++) {
            x.exit(p);
            due("sheets() after exit(" + p + ")", x.sheets(), 15 - 5 * p);
        }
    }
}
