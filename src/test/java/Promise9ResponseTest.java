/** Promise 9: response. */
public final class Promise9ResponseTest {
    private static final String PLACE = "Promise 9";

    public static void main(String[] args) {
        theReleaseSlotAndTheLastSlotAreCountedIn();
        theGreatestMayBeTheFirstJobs();
        theGreatestMayBeAJobBetween();
        theGreatestMayBeTheLastJobs();
        aJobThatIsStoppedCountsAllItsSlots();
        bothPartsOfASplitTaskHaveTheirOwn();
        noSuchCore();
        noSuchTask();
        noPartOnTheCore();
        Due.end();
    }

    private static void theReleaseSlotAndTheLastSlotAreCountedIn() {
        Due.sentence(PLACE, "from the release slot to the slot in which it finishes, both counted in");
        for (int p : Made.PERIODS) {
            Due.is("one slot of " + p, Made.with(1, 1, p, p).response(0, 0), 1);
            Due.is("all slots of " + p, Made.with(1, p, p, p).response(0, 0), p);
            SemiPartEdf x = Made.with(1, p - 1, p, p, 1, p, p);
            Due.is("behind p - 1 slots of " + p, x.response(0, 1), p);
            Due.is("ahead of one slot of " + p, x.response(0, 0), p - 1);
        }
        SemiPartEdf twelve = Made.twelve(1);
        for (int id = 0; id < 12; id++) {
            Due.is("task " + id + " of twelve", twelve.response(0, id), id + 1);
        }
    }

    private static void theGreatestMayBeTheFirstJobs() {
        Due.sentence(PLACE, "The greatest number of slots, over the jobs that the part on this core releases");
        // Task 1 waits in slot 0 for task 0, and never again.
        SemiPartEdf x = Made.with(1, 1, 3, 5, 1, 12, 12);
        Due.is("the job of slot 0", x.response(0, 1), 2);
    }

    private static void theGreatestMayBeAJobBetween() {
        Due.sentence(PLACE, "The greatest number of slots, over the jobs that the part on this core releases");
        // Task 0's job of slot 24, due at 29 like task 1's of slot 25, keeps that one waiting, and no other.
        SemiPartEdf x = Made.with(1, 2, 5, 12, 1, 4, 5);
        Due.is("the job of slot 25", x.response(0, 1), 2);
        // Task 1's job of slot 12 waits for task 0's of slot 10, which needs the slots 10 to 14.
        SemiPartEdf y = Made.with(1, 5, 8, 10, 1, 7, 12);
        Due.is("the job of slot 12", y.response(0, 1), 4);
    }

    private static void theGreatestMayBeTheLastJobs() {
        Due.sentence(PLACE, "over the jobs that the part on this core releases in slots 0 to 59");
        // Task 0's job of slot 48, due at 55 like task 1's of slot 50, keeps that one waiting, and no other.
        SemiPartEdf x = Made.with(1, 3, 7, 12, 1, 5, 10);
        Due.is("the job of slot 50", x.response(0, 1), 2);
        Due.is("task 0 itself", x.response(0, 0), 4);
    }

    private static void aJobThatIsStoppedCountsAllItsSlots() {
        Due.sentence(PLACE, "from the release slot to the slot in which it finishes, both counted in");
        SemiPartEdf x = Made.with(1, 8, 20, 20, 2, 3, 5);
        Due.is("stopped twice", x.response(0, 0), 14);
        Due.is("never stopped", x.response(0, 1), 2);
        Due.is("ends in slot 59", Made.with(1, 1, 2, 2, 30, 60, 60).response(0, 1), 60);
    }

    private static void bothPartsOfASplitTaskHaveTheirOwn() {
        Due.sentence(PLACE, "over the jobs that the part on this core releases");
        SemiPartEdf x = Made.split();
        Due.is("first part", x.response(0, 2), 2);
        Due.is("second part", x.response(1, 2), 1);
        Due.is("behind the first part", x.response(0, 0), 5);
        Due.is("behind the second part", x.response(1, 1), 4);
        SemiPartEdf back = Made.with(2, 3, 3, 5, 6, 10, 10, 5, 10, 10);
        Due.is("first part on core 1", back.response(1, 2), 4);
        Due.is("second part on core 0, behind task 0", back.response(0, 2), 4);
    }

    private static void noSuchCore() {
        Due.sentence(PLACE, "No such core: BAD_CORE");
        for (int cores = 1; cores <= 3; cores++) {
            SemiPartEdf x = Made.twelve(cores);
            for (int core : Made.noCores(cores)) {
                Due.is("response(" + core + ", 0) of " + cores, x.response(core, 0), SemiPartEdf.BAD_CORE);
            }
        }
    }

    private static void noSuchTask() {
        Due.sentence(PLACE, "no such task, or it has no part on the core: NO_TASK");
        SemiPartEdf x = Made.split();
        for (int core = 0; core < 2; core++) {
            for (int id : Made.NEVER_IDS) {
                Due.is("response(" + core + ", " + id + ")", x.response(core, id), SemiPartEdf.NO_TASK);
            }
            for (int id = 3; id < 12; id++) {
                Due.is("response(" + core + ", " + id + ")", x.response(core, id), SemiPartEdf.NO_TASK);
            }
        }
        x.remove(2);
        Due.is("first part behind remove", x.response(0, 2), SemiPartEdf.NO_TASK);
        Due.is("second part behind remove", x.response(1, 2), SemiPartEdf.NO_TASK);
        SemiPartEdf full = Made.twelve(1);
        full.spare(0, 60);
        Due.is("task 12 behind spare", full.response(0, 12), SemiPartEdf.NO_TASK);
    }

    private static void noPartOnTheCore() {
        Due.sentence(PLACE, "no such task, or it has no part on the core: NO_TASK");
        SemiPartEdf x = Made.with(3, 60, 60, 60, 60, 60, 60, 60, 60, 60);
        for (int core = 0; core < 3; core++) {
            for (int id = 0; id < 3; id++) {
                int want = core == id ? 60 : SemiPartEdf.NO_TASK;
                Due.is("response(" + core + ", " + id + ")", x.response(core, id), want);
            }
        }
        SemiPartEdf third = Made.with(3, 6, 10, 10, 10, 10, 10, 6, 10, 10, 5, 10, 10);
        Due.is("first part", third.response(0, 3), 4);
        Due.is("the core between the parts", third.response(1, 3), SemiPartEdf.NO_TASK);
        Due.is("second part", third.response(2, 3), 1);
    }
}
