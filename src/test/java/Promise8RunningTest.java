/** Promise 8: running. */
public final class Promise8RunningTest {
    private static final String PLACE = "Promise 8";

    public static void main(String[] args) {
        theIdOfTheTaskThatRuns();
        aSplitTaskRunsOnBothCores();
        noTaskIfTheCoreIdles();
        noSuchCore();
        aSlotOutside0To59IsBadTime();
        Due.end();
    }

    private static void theIdOfTheTaskThatRuns() {
        Due.sentence(PLACE, "The id of the task that runs on the core in this slot");
        SemiPartEdf x = Made.with(3, 60, 60, 60, 30, 30, 30, 1, 2, 2);
        for (int core = 0; core < 3; core++) {
            int other = core == 2 ? SemiPartEdf.NO_TASK : core;
            Made.runs("task " + core, x, core, core, other);
        }
        SemiPartEdf twelve = Made.twelve(1);
        for (int slot = 0; slot < 12; slot++) {
            Due.is("twelve tasks, slot " + slot, twelve.running(0, slot), slot);
        }
        twelve.remove(3);
        Due.is("slot 3 without task 3", twelve.running(0, 3), 4);
        Due.is("slot 10 without task 3", twelve.running(0, 10), 11);
        Due.is("slot 11 without task 3", twelve.running(0, 11), SemiPartEdf.NO_TASK);
    }

    private static void aSplitTaskRunsOnBothCores() {
        Due.sentence(PLACE, "The id of the task that runs on the core in this slot");
        SemiPartEdf x = Made.split();
        Made.runs("first part", x, 0, 2, 2, 0, 0, 0);
        Made.runs("second part", x, 1, 2, 1, 1, 1, SemiPartEdf.NO_TASK);
    }

    private static void noTaskIfTheCoreIdles() {
        Due.sentence(PLACE, "NO_TASK if the core idles");
        SemiPartEdf x = Made.with(2, 4, 5, 5);
        Made.runs("the last slot of five", x, 0, 0, 0, 0, 0, SemiPartEdf.NO_TASK);
        Made.runs("an empty core", x, 1, SemiPartEdf.NO_TASK);
        x.remove(0);
        Made.runs("a core that is empty again", x, 0, SemiPartEdf.NO_TASK);
    }

    private static void noSuchCore() {
        Due.sentence(PLACE, "No such core: BAD_CORE");
        for (int cores = 1; cores <= 3; cores++) {
            SemiPartEdf x = Made.twelve(cores);
            for (int core : Made.noCores(cores)) {
                Due.is("running(" + core + ", 0)", x.running(core, 0), SemiPartEdf.BAD_CORE);
                Due.is("running(" + core + ", 59)", x.running(core, 59), SemiPartEdf.BAD_CORE);
            }
            for (int core = 0; core < cores; core++) {
                Due.is("running(" + core + ", 0)", x.running(core, 0), core == 0 ? 0 : SemiPartEdf.NO_TASK);
            }
        }
    }

    private static void aSlotOutside0To59IsBadTime() {
        Due.sentence(PLACE, "slot not in 0 to 59: BAD_TIME");
        SemiPartEdf x = Made.with(3, 60, 60, 60, 60, 60, 60);
        int[] bad = {Made.LEAST, Made.LEAST + 1, -60, -59, -2, -1, 60, 61, 119, 120, Made.MOST - 1, Made.MOST};
        for (int core = 0; core < 3; core++) {
            for (int slot : bad) {
                Due.is("running(" + core + ", " + slot + ")", x.running(core, slot), SemiPartEdf.BAD_TIME);
            }
            int runs = core == 2 ? SemiPartEdf.NO_TASK : core;
            Due.is("running(" + core + ", 0)", x.running(core, 0), runs);
            Due.is("running(" + core + ", 59)", x.running(core, 59), runs);
        }
    }
}
