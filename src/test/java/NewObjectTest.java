import java.lang.reflect.Field;

// Promise 1
public final class NewObjectTest extends Cases {
    public static void main(String[] args) {
        run(NewObjectTest.class);
    }

    static void processZeroIsAlive() {
        due("map(0, 0, false)", new CowMemory(3).map(0, 0, false), 0);
        due("fork(0, 1)", new CowMemory(3).fork(0, 1), 0);
        due("exit(0)", new CowMemory(3).exit(0), 0);
    }

    static void noOtherProcessIsAlive() {
        CowMemory x = new CowMemory(3);
        for (int p = 1; p < 4; p++) {
            due("showing(" + p + ", 0)", x.showing(p, 0), DEAD);
            due("map(" + p + ", 0, true)", x.map(p, 0, true), DEAD);
            due("exit(" + p + ")", x.exit(p), DEAD);
        }
    }

    static void noPageIsMapped() {
        CowMemory x = new CowMemory(3);
        for (int page = 0; page < 5; page++) {
            due("isMapped(0, " + page + ")", x.isMapped(0, page), false);
            due("showing(0, " + page + ")", x.showing(0, page), UNMAPPED);
        }
        due("total()", x.total(), 0);
        due("sheets()", x.sheets(), 0);
    }

    static void twoObjectsKnowNothingOfEachOther() {
        CowMemory x = new CowMemory(2);
        CowMemory y = new CowMemory(2);
        x.map(0, 0, true);
        x.write(0, 0, 5);
        x.fork(0, 1);
        due("isMapped(0, 0) of the other", y.isMapped(0, 0), false);
        due("exit(1) of the other", y.exit(1), DEAD);
        due("total() of the other", y.total(), 0);
    }

    static void framesBelow2ShowInNoAnswer() {
        framesShowInNoAnswer(LOW, LOW + 1, -6, -2, -1, 0, 1);
    }

    static void framesFrom2To6ShowInNoAnswer() {
        framesShowInNoAnswer(2, 3, 4, 5, 6);
    }

    static void framesAbove6ShowInNoAnswer() {
        framesShowInNoAnswer(7, 8, 19, 20, 21, 1 << 30, HIGH);
    }

    private static void framesShowInNoAnswer(int... many) {
        for (int frames : many) {
            for (int pages = 1; pages <= 5; pages++) {
                due("answers with " + frames + " frames", answersOfARun(frames, pages), dueOfTheRun(pages));
            }
        }
    }

    // From one page in use to 20, so fewer and more of them than there are frames.
    private static String answersOfARun(int frames, int pages) {
        CowMemory x = new CowMemory(frames);
        StringBuilder text = new StringBuilder();
        for (int page = 0; page < pages; page++) {
            text.append(x.map(0, page, false)).append(' ');
        }
        for (int q = 1; q < 4; q++) {
            text.append(x.fork(0, q)).append(' ');
        }
        for (int p = 0; p < 4; p++) {
            for (int page = 0; page < pages; page++) {
                text.append(x.write(p, 4 * page, 10 * p + page)).append(' ');
            }
        }
        for (int p = 0; p < 4; p++) {
            for (int page = 0; page < pages; page++) {
                text.append(x.read(p, 4 * page)).append(' ').append(x.showing(p, page)).append(' ');
            }
        }
        return text.append(x.sheets()).append(' ').append(x.total()).toString();
    }

    private static String dueOfTheRun(int pages) {
        StringBuilder text = new StringBuilder();
        for (int page = 0; page < pages; page++) {
            text.append(page).append(' ');
        }
        text.append((pages + " ").repeat(3));
        for (int slot = 0; slot < 4 * pages; slot++) {
            text.append(4 * (slot % pages)).append(' ');
        }
        int sum = 0;
        for (int slot = 0; slot < 4 * pages; slot++) {
            int value = 10 * (slot / pages) + slot % pages;
            sum += value;
            text.append(value).append(" 1 ");
        }
        return text.append(4 * pages).append(' ').append(sum).toString();
    }

    // "clamped into 2..6": no answer tells it, so the field that keeps the number is looked at.

    static void framesBelow2AreKeptAs2() {
        for (int frames : new int[] {LOW, LOW + 1, -1, 0, 1}) {
            due("frames kept of " + frames, framesKept(new CowMemory(frames)), 2);
        }
    }

    static void framesFrom2To6AreKept() {
        for (int frames = 2; frames <= 6; frames++) {
            due("frames kept of " + frames, framesKept(new CowMemory(frames)), frames);
        }
    }

    static void framesAbove6AreKeptAs6() {
        for (int frames : new int[] {7, 8, 20, HIGH - 1, HIGH}) {
            due("frames kept of " + frames, framesKept(new CowMemory(frames)), 6);
        }
    }

    private static int framesKept(CowMemory x) {
        try {
            Field field = CowMemory.class.getDeclaredField("frames");
            field.setAccessible(true);
            return field.getInt(x);
        } catch (ReflectiveOperationException thrown) {
            throw new IllegalStateException(thrown);
        }
    }
}
