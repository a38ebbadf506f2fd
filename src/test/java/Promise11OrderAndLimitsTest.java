/** Promise 11: Order and limits. */
public final class Promise11OrderAndLimitsTest {
    private static final String PLACE = "Promise 11";

    public static void main(String[] args) {
        runningTestsTheCoreBeforeTheTime();
        responseTestsTheCoreBeforeTheTask();
        spareTestsTheCoreBeforeThePeriod();
        secondCoreTestsTheTaskBeforeTheCore();
        Due.end();
    }

    private static void runningTestsTheCoreBeforeTheTime() {
        Due.sentence(PLACE, "running: BAD_CORE is tested before BAD_TIME.");
        for (int cores = 1; cores <= 3; cores++) {
            SemiPartEdf x = Made.with(cores, 1, 60, 60);
            for (int core : Made.noCores(cores)) {
                for (int slot : new int[] {Made.LEAST, -1, 60, Made.MOST}) {
                    Due.is("running(" + core + ", " + slot + ")", x.running(core, slot), SemiPartEdf.BAD_CORE);
                }
            }
        }
    }

    private static void responseTestsTheCoreBeforeTheTask() {
        Due.sentence(PLACE, "response: BAD_CORE before NO_TASK.");
        for (int cores = 1; cores <= 3; cores++) {
            SemiPartEdf x = Made.with(cores, 1, 60, 60);
            for (int core : Made.noCores(cores)) {
                for (int id : new int[] {Made.LEAST, -1, 1, 11, 12, 13, Made.MOST}) {
                    Due.is("response(" + core + ", " + id + ")", x.response(core, id), SemiPartEdf.BAD_CORE);
                }
            }
        }
    }

    private static void spareTestsTheCoreBeforeThePeriod() {
        Due.sentence(PLACE, "spare: BAD_CORE before BAD_PERIOD.");
        for (int cores = 1; cores <= 3; cores++) {
            SemiPartEdf x = Made.with(cores, 1, 60, 60);
            for (int core : Made.noCores(cores)) {
                for (int p : new int[] {Made.LEAST, -1, 0, 1, 7, 61, Made.MOST}) {
                    Due.is("spare(" + core + ", " + p + ")", x.spare(core, p), SemiPartEdf.BAD_CORE);
                }
            }
        }
    }

    private static void secondCoreTestsTheTaskBeforeTheCore() {
        Due.sentence(PLACE, "secondCore: NO_TASK is tested before NO_CORE.");
        SemiPartEdf x = Made.with(1, 1, 60, 60);
        Due.is("never there", x.secondCore(1), SemiPartEdf.NO_TASK);
        Due.is("whole", x.secondCore(0), SemiPartEdf.NO_CORE);
        x.remove(0);
        Due.is("whole and gone", x.secondCore(0), SemiPartEdf.NO_TASK);
        for (int id : Made.NEVER_IDS) {
            Due.is("secondCore(" + id + ")", x.secondCore(id), SemiPartEdf.NO_TASK);
        }
    }
}
