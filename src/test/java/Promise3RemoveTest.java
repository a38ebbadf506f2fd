/** Promise 3: remove. */
public final class Promise3RemoveTest {
    private static final String PLACE = "Promise 3";
    private static final int IDLE = SemiPartEdf.NO_TASK;

    public static void main(String[] args) {
        aWholeTaskGoes();
        aSplitTaskGoesWithBothParts();
        nothingOfASplitTaskComesBack();
        nothingOfAWholeTaskComesBack();
        theOtherTasksStayWhereTheyAre();
        anIdOutOfRangeIsNoTask();
        anIdThatNoTaskHasIsNoTask();
        aRefusedRemoveChangesNothing();
        itAnswersHowManyAreLeft();
        Due.end();
    }

    private static void aWholeTaskGoes() {
        Due.sentence(PLACE, "Takes a task out");
        SemiPartEdf x = Made.with(2, 60, 60, 60, 40, 60, 60, 20, 60, 60);
        Due.is("remove(1)", x.remove(1), 2);
        Due.is("core(1)", x.core(1), SemiPartEdf.NO_TASK);
        Due.is("secondCore(1)", x.secondCore(1), SemiPartEdf.NO_TASK);
        Due.is("firstCost(1)", x.firstCost(1), SemiPartEdf.NO_TASK);
        Due.is("response(1, 1)", x.response(1, 1), SemiPartEdf.NO_TASK);
        Due.is("load(1)", x.load(1), 20);
        Due.is("spare(1, 60)", x.spare(1, 60), 40);
        Due.is("slot 0 is task 2's now", x.running(1, 0), 2);
        Due.is("slot 20 is nobody's", x.running(1, 20), IDLE);
    }

    private static void aSplitTaskGoesWithBothParts() {
        Due.sentence(PLACE, "with both parts if it was split");
        SemiPartEdf x = Made.split();
        Due.is("remove(2)", x.remove(2), 2);
        for (int core = 0; core < 2; core++) {
            Due.is("load(" + core + ")", x.load(core), 36);
            Due.is("response(" + core + ", 2)", x.response(core, 2), SemiPartEdf.NO_TASK);
            Due.is("spare(" + core + ", 5)", x.spare(core, 5), 2);
            Made.runs("the other task alone", x, core, core, core, core, IDLE, IDLE);
        }
        // The first part may stand on the greater core.
        SemiPartEdf back = Made.with(2, 3, 3, 5, 6, 10, 10, 5, 10, 10);
        Due.is("second part on core 0", back.secondCore(2), 0);
        Due.is("remove(2)", back.remove(2), 2);
        Due.is("load(0)", back.load(0), 36);
        Due.is("load(1)", back.load(1), 36);
    }

    private static void nothingOfASplitTaskComesBack() {
        Due.sentence(PLACE, "with both parts if it was split");
        SemiPartEdf x = Made.split();
        Due.is("remove(2)", x.remove(2), 2);
        Due.is("its id again, whole", x.admit(1, 5, 5), 2);
        Due.is("core(2)", x.core(2), 0);
        Due.is("secondCore(2)", x.secondCore(2), SemiPartEdf.NO_CORE);
        Due.is("load(1)", x.load(1), 36);
        Due.is("response(1, 2)", x.response(1, 2), SemiPartEdf.NO_TASK);
        Made.runs("core 1 without it", x, 1, 1, 1, 1, IDLE, IDLE);
        // The id again, but not on the core of the first part, which another task fills.
        SemiPartEdf y = Made.split();
        y.remove(2);
        y.remove(0);
        Due.is("all of core 0", y.admit(5, 5, 5), 0);
        Due.is("the id again, on core 1", y.admit(1, 5, 5), 2);
        Due.is("load(0)", y.load(0), 60);
        Due.is("response(0, 2)", y.response(0, 2), SemiPartEdf.NO_TASK);
        Made.runs("core 0 without it", y, 0, 0);
    }

    private static void nothingOfAWholeTaskComesBack() {
        Due.sentence(PLACE, "Takes a task out");
        SemiPartEdf x = Made.with(2, 10, 60, 60, 50, 60, 60);
        x.remove(0);
        Due.is("the id again, too much for core 0", x.admit(11, 60, 60), 0);
        Due.is("load(0)", x.load(0), 50);
        Due.is("load(1)", x.load(1), 11);
        Due.is("response(0, 0)", x.response(0, 0), SemiPartEdf.NO_TASK);
        Due.is("slot 0 of core 0", x.running(0, 0), 1);
        Due.is("spare(0, 60)", x.spare(0, 60), 10);
    }

    private static void theOtherTasksStayWhereTheyAre() {
        Due.sentence(PLACE, "Takes a task out");
        SemiPartEdf x = Made.split();
        Due.is("remove(0)", x.remove(0), 2);
        // Task 2 would fit on core 0 whole now, but stays split, under its id.
        Due.is("core(2)", x.core(2), 0);
        Due.is("secondCore(2)", x.secondCore(2), 1);
        Due.is("firstCost(2)", x.firstCost(2), 2);
        Due.is("core(1)", x.core(1), 1);
        Made.runs("first part", x, 0, 2, 2, IDLE, IDLE, IDLE);
        Made.runs("second part", x, 1, 2, 1, 1, 1, IDLE);
    }

    private static void anIdOutOfRangeIsNoTask() {
        Due.sentence(PLACE, "No task has this id: NO_TASK, nothing changes.");
        SemiPartEdf x = Made.twelve(3);
        for (int id : Made.NEVER_IDS) {
            Due.is("remove(" + id + ")", x.remove(id), SemiPartEdf.NO_TASK);
        }
        Due.is("all twelve were there", x.remove(11), 11);
    }

    private static void anIdThatNoTaskHasIsNoTask() {
        Due.sentence(PLACE, "No task has this id: NO_TASK, nothing changes.");
        SemiPartEdf x = Made.split();
        for (int id = 3; id < 12; id++) {
            Due.is("remove(" + id + ")", x.remove(id), SemiPartEdf.NO_TASK);
        }
        Due.is("the last one", x.remove(2), 2);
        Due.is("is gone already", x.remove(2), SemiPartEdf.NO_TASK);
        Due.is("the first one", x.remove(0), 1);
        Due.is("is gone already too", x.remove(0), SemiPartEdf.NO_TASK);
        Due.is("the only one", x.remove(1), 0);
        Due.is("none is left", x.remove(1), SemiPartEdf.NO_TASK);
    }

    private static void aRefusedRemoveChangesNothing() {
        Due.sentence(PLACE, "No task has this id: NO_TASK, nothing changes.");
        for (int id : new int[] {Made.LEAST, -1, 3, 11, 12, 13, Made.MOST}) {
            SemiPartEdf x = Made.split();
            Due.is("remove(" + id + ")", x.remove(id), SemiPartEdf.NO_TASK);
            Due.same("remove(" + id + ")", Made.picture(x), Made.picture(Made.split()));
        }
        SemiPartEdf twice = Made.split();
        twice.remove(1);
        twice.remove(1);
        SemiPartEdf once = Made.split();
        once.remove(1);
        Due.same("a second remove(1)", Made.picture(twice), Made.picture(once));
    }

    private static void itAnswersHowManyAreLeft() {
        Due.sentence(PLACE, "Else answers how many tasks are left.");
        SemiPartEdf up = Made.twelve(1);
        SemiPartEdf down = Made.twelve(1);
        for (int gone = 0; gone < 12; gone++) {
            Due.is("from the first id on", up.remove(gone), 11 - gone);
            Due.is("from the last id on", down.remove(11 - gone), 11 - gone);
        }
        SemiPartEdf split = Made.split();
        Due.is("a split task is one task", split.remove(2), 2);
        Due.is("and comes again", split.admit(3, 5, 5), 2);
        Due.is("one of three goes", split.remove(0), 2);
    }
}
