/** Promise 10: spare. */
public final class Promise10SpareTest {
    private static final String PLACE = "Promise 10";

    public static void main(String[] args) {
        anEmptyCoreSparesAllOfP();
        aFullCoreSpares0();
        theGreatestCostFrom1ToP();
        theAddedPartIsDueAtP();
        everyCoreHasItsOwn();
        itIsWhatAdmitWouldTake();
        noSuchCore();
        aBadPeriodIsRefusedAsInAdmit();
        twelveTasksDoNotMatter();
        thePartIsAddedUnderTheSmallestFreeId();
        Due.end();
    }

    private static void anEmptyCoreSparesAllOfP() {
        Due.sentence(PLACE, "The greatest cost x, 1 to p");
        for (int cores = 1; cores <= 3; cores++) {
            SemiPartEdf x = new SemiPartEdf(cores);
            for (int p : Made.PERIODS) {
                for (int core = 0; core < cores; core++) {
                    Due.is("spare(" + core + ", " + p + ")", x.spare(core, p), p);
                }
            }
        }
    }

    private static void aFullCoreSpares0() {
        Due.sentence(PLACE, "0 if there is none");
        SemiPartEdf x = Made.with(1, 60, 60, 60);
        for (int p : Made.PERIODS) {
            Due.is("full, spare(0, " + p + ")", x.spare(0, p), 0);
        }
        // 30 slots are left, but never one of the first five of ten.
        SemiPartEdf late = Made.with(1, 5, 5, 10);
        for (int p : new int[] {2, 3, 4, 5}) {
            Due.is("busy at first, spare(0, " + p + ")", late.spare(0, p), 0);
        }
        Due.is("busy at first, spare(0, 6)", late.spare(0, 6), 1);
    }

    private static void theGreatestCostFrom1ToP() {
        Due.sentence(PLACE, "The greatest cost x, 1 to p");
        for (int p : Made.PERIODS) {
            for (int c = 1; c < p; c++) {
                Due.is("beside " + c + " of " + p, Made.with(1, c, p, p).spare(0, p), p - c);
            }
        }
        SemiPartEdf x = Made.with(1, 3, 3, 5);
        int[][] due = {{2, 0}, {3, 0}, {4, 1}, {5, 2}, {6, 2}, {10, 4}, {60, 24}};
        for (int[] pair : due) {
            Due.is("spare(0, " + pair[0] + ")", x.spare(0, pair[0]), pair[1]);
        }
    }

    // Task 0 has the slots up to p - 1 or all but the last: a part due at p may have the last one.
    private static void theAddedPartIsDueAtP() {
        Due.sentence(PLACE, "for which the core doesn't miss with a part (x, p, p) added");
        for (int p : Made.PERIODS) {
            SemiPartEdf x = Made.with(1, p - 1, p - 1, 60);
            Due.is("the last slot of " + p, x.spare(0, p), 1);
            SemiPartEdf y = Made.with(1, p, p, 60);
            Due.is("none before slot " + p, y.spare(0, p), 0);
        }
    }

    private static void everyCoreHasItsOwn() {
        Due.sentence(PLACE, "for which the core doesn't miss");
        SemiPartEdf x = Made.with(3, 50, 60, 60, 40, 60, 60, 30, 60, 60);
        Due.is("spare(0, 60)", x.spare(0, 60), 10);
        Due.is("spare(1, 60)", x.spare(1, 60), 20);
        Due.is("spare(2, 60)", x.spare(2, 60), 30);
        SemiPartEdf split = Made.split();
        Due.is("beside a first part", split.spare(0, 60), 0);
        Due.is("beside a second part", split.spare(1, 60), 12);
        Due.is("beside a second part, period 5", split.spare(1, 5), 1);
        split.remove(2);
        Due.is("where a first part was", split.spare(0, 60), 24);
        Due.is("where a second part was", split.spare(1, 60), 24);
    }

    // On one core nothing is split, so admit takes that cost and refuses one slot more.
    private static void itIsWhatAdmitWouldTake() {
        Due.sentence(PLACE, "The greatest cost x, 1 to p, for which the core doesn't miss with a part (x, p, p) added");
        int[][] tasks = {{2, 4, 6}, {1, 3, 4}, {4, 8, 10}, {3, 12, 20}, {1, 1, 12}, {5, 9, 15}, {9, 25, 30}};
        for (int[] one : tasks) {
            for (int[] other : tasks) {
                SemiPartEdf x = Made.with(1, one[0], one[1], one[2]);
                x.admit(other[0], other[1], other[2]);
                for (int p : Made.PERIODS) {
                    takesSpareAndNoMore(x, p);
                }
            }
        }
    }

    private static void takesSpareAndNoMore(SemiPartEdf x, int p) {
        int most = x.spare(0, p);
        if (most < p) {
            Due.is("one slot more of " + p, x.admit(most + 1, p, p), SemiPartEdf.NO_CORE);
        }
        if (most > 0) {
            int id = x.admit(most, p, p);
            Due.holds("all that is spare of " + p, id == 1 || id == 2);
            Due.holds("and it goes again", x.remove(id) == id);
        }
    }

    private static void noSuchCore() {
        Due.sentence(PLACE, "BAD_CORE");
        for (int cores = 1; cores <= 3; cores++) {
            SemiPartEdf x = Made.twelve(cores);
            for (int core : Made.noCores(cores)) {
                Due.is("spare(" + core + ", 60) of " + cores, x.spare(core, 60), SemiPartEdf.BAD_CORE);
            }
        }
    }

    private static void aBadPeriodIsRefusedAsInAdmit() {
        Due.sentence(PLACE, "p as in admit: BAD_PERIOD");
        SemiPartEdf x = new SemiPartEdf(2);
        for (int p = -61; p <= 130; p++) {
            Due.is("spare(1, " + p + ")", x.spare(1, p), Made.isPeriod(p) ? p : SemiPartEdf.BAD_PERIOD);
        }
        for (int p : new int[] {Made.LEAST, Made.LEAST + 1, -120, 180, 600, Made.MOST - 1, Made.MOST}) {
            Due.is("spare(0, " + p + ")", x.spare(0, p), SemiPartEdf.BAD_PERIOD);
        }
        SemiPartEdf full = Made.with(1, 60, 60, 60);
        Due.is("bad period of a full core", full.spare(0, 7), SemiPartEdf.BAD_PERIOD);
        Due.is("bad period beside twelve tasks", Made.twelve(1).spare(0, 61), SemiPartEdf.BAD_PERIOD);
    }

    private static void twelveTasksDoNotMatter() {
        Due.sentence(PLACE, "Whether there are twelve tasks doesn't matter: then the id is 12.");
        SemiPartEdf x = Made.twelve(3);
        Due.is("period 60", x.spare(0, 60), 48);
        Due.is("period 10", x.spare(0, 10), 8);
        Due.is("period 12", x.spare(0, 12), 9);
        Due.is("period 2", x.spare(0, 2), 1);
        Due.is("another core", x.spare(2, 60), 60);
        Due.is("it is no task", x.core(12), SemiPartEdf.NO_TASK);
        Due.is("still full", x.admit(1, 60, 60), SemiPartEdf.FULL);
        Due.is("load", x.load(0), 12);
        Due.is("nothing runs behind the twelve", x.running(0, 12), SemiPartEdf.NO_TASK);
        Due.is("eleven are left", x.remove(0), 11);
        Due.is("eleven tasks", x.spare(0, 60), 49);
        SemiPartEdf full = new SemiPartEdf(1);
        for (int id = 0; id < 12; id++) {
            Due.is("task of five slots", full.admit(5, 60, 60), id);
        }
        Due.is("twelve tasks of a full core", full.spare(0, 60), 0);
        full.remove(11);
        Due.is("eleven of them", full.spare(0, 60), 5);
    }

    // Which of equal deadlines runs first never makes a core miss, so the id shows in no answer: whatever
    // it is, spare is the same.
    private static void thePartIsAddedUnderTheSmallestFreeId() {
        Due.sentence(PLACE, "under the smallest id that no task has");
        for (int gone = 0; gone < 12; gone++) {
            SemiPartEdf x = Made.twelve(1);
            x.remove(gone);
            Due.is("without task " + gone, x.spare(0, 60), 49);
            Due.is("the id stays free", x.core(gone), SemiPartEdf.NO_TASK);
            Due.is("and is the next one", x.admit(49, 60, 60), gone);
        }
    }
}
