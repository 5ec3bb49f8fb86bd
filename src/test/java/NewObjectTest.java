// Promise 1
public final class NewObjectTest extends Cases {
    public static void main(String[] args) {
        run(NewObjectTest.class);
    }

    static void processZeroIsAlive() {
        due("map(0, 0, false)", new CowMemory(3).map(0, 0, false), 0);
        due("fork(0, 1)", new CowMemory(3).fork(0, 1), 0);
        due("exit(0)", new CowMemory(3).exit(0), 0);
    }

    static void noOtherProcessIsAlive() {
        CowMemory x = new CowMemory(3);
        for (int p = 1; p < 4; p++) {
            due("showing(" + p + ", 0)", x.showing(p, 0), DEAD);
            due("map(" + p + ", 0, true)", x.map(p, 0, true), DEAD);
            due("exit(" + p + ")", x.exit(p), DEAD);
        }
    }

    static void noPageIsMapped() {
        CowMemory x = new CowMemory(3);
        for (int page = 0; page < 5; page++) {
            due("isMapped(0, " + page + ")", x.isMapped(0, page), false);
            due("showing(0, " + page + ")", x.showing(0, page), UNMAPPED);
        }
        due("total()", x.total(), 0);
        due("sheets()", x.sheets(), 0);
    }

    static void twoObjectsKnowNothingOfEachOther() {
        CowMemory x = new CowMemory(2);
        CowMemory y = new CowMemory(2);
        x.map(0, 0, true);
        x.write(0, 0, 5);
        x.fork(0, 1);
        due("isMapped(0, 0) of the other", y.isMapped(0, 0), false);
        due("exit(1) of the other", y.exit(1), DEAD);
        due("total() of the other", y.total(), 0);
    }

    static void framesBelow2ShowInNoAnswer() {
        framesShowInNoAnswer(LOW, LOW + 1, -6, -2, -1, 0, 1);
    }

    static void framesFrom2To6ShowInNoAnswer() {
        framesShowInNoAnswer(2, 3, 4, 5, 6);
    }

    static void framesAbove6ShowInNoAnswer() {
        framesShowInNoAnswer(7, 8, 19, 20, 21, 1 << 30, HIGH);
    }

    private static void framesShowInNoAnswer(int... many) {
        for (int frames : many) {
            for (int pages = 1; pages <= 5; pages++) {
                due("answers with " + frames + " frames", answersOfARun(frames, pages), dueOfTheRun(pages));
            }
        }
    }

    // From one page in use to 20, so fewer and more of them than there are frames.
    private static String answersOfARun(int frames, int pages) {
        CowMemory x = new CowMemory(frames);
        StringBuilder text = new StringBuilder();
        for (int page = 0; page < pages; page++) {
            text.append(x.map(0, page, false)).append(' ');
        }
        for (int q = 1; q < 4; q++) {
            text.append(x.fork(0, q)).append(' ');
        }
        for (int p = 0; p < 4; p++) {
            for (int page = 0; page < pages; page++) {
                text.append(x.write(p, 4 * page, 10 * p + page)).append(' ');
            }
        }
        for (int p = 0; p < 4; p++) {
            for (int page = 0; page < pages; page++) {
                text.append(x.read(p, 4 * page)).append(' ').append(x.showing(p, page)).append(' ');
            }
        }
        return text.append(x.sheets()).append(' ').append(x.total()).toString();
    }

    private static String dueOfTheRun(int pages) {
        StringBuilder text = new StringBuilder();
        for (int page = 0; page < pages; page++) {
            text.append(page).append(' ');
        }
        text.append((pages + " ").repeat(3));
        for (int slot = 0; slot < 4 * pages; slot++) {
            text.append(4 * (slot % pages)).append(' ');
        }
        int sum = 0;
        for (int slot = 0; slot < 4 * pages; slot++) {
            int value = 10 * (slot / pages) + slot % pages;
            sum += value;
            text.append(value).append(" 1 ");
        }
        return text.append(4 * pages).append(' ').append(sum).toString();
    }

    // The number of frames, clamped or not, may be told by no method, so a run that uses each of them is the same for all.
    static void framesShowInNoAnswerOfAnyMethod() {
        String due = answersOfAMixedRun(2);
        for (int frames : new int[] {LOW, -1, 0, 1, 3, 4, 5, 6, 7, 20, HIGH}) {
            due("answers with " + frames + " frames", answersOfAMixedRun(frames), due);
        }
    }

    // 330 calls, and 122 more for the state.
    private static String answersOfAMixedRun(int frames) {
        CowMemory x = new CowMemory(frames);
        StringBuilder text = new StringBuilder();
        for (int round = 0; round < 30; round++) {
            int p = round % 3;
            int page = 3 * round % 5;
            text.append(x.map(p, page, round % 2 == 0)).append(' ');
            text.append(x.attach(8 * p + (page + 1) % 5, 8 * p + page)).append(' ');
            text.append(x.write(p, 4 * page + round % 4, round + 1)).append(' ');
            text.append(x.fork(p, (p + 1) % 4)).append(' ');
            text.append(x.read((p + 1) % 4, 4 * page + round % 4)).append(' ');
            text.append(x.showing(p, page)).append(' ');
            text.append(x.sheets()).append(' ');
            text.append(x.total()).append(' ');
            text.append(x.isMapped(3, page)).append(' ');
            text.append(x.unmap(p, round % 5)).append(' ');
            text.append(x.exit(3)).append(' ');
        }
        return text.append(state(x)).toString();
    }
}
