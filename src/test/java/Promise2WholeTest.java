/** Promise 2: admit, a task that a core takes whole. */
public final class Promise2WholeTest {
    private static final String PLACE = "Promise 2";

    public static void main(String[] args) {
        theFirstCoreThatDoesNotMissTakesIt();
        core0IsTheFirst();
        theLastCoreIsTriedToo();
        onlyCoresThatThereAreAreTried();
        aCoreIsTakenUpToItsLastSlot();
        aCoreThatATaskHasLeftIsTriedAgain();
        wholeOnTheLastCoreComesBeforeSplit();
        Due.end();
    }

    private static void whole(String what, SemiPartEdf x, int id, int core, int cost) {
        Due.is(what + ", core", x.core(id), core);
        Due.is(what + ", second core", x.secondCore(id), SemiPartEdf.NO_CORE);
        Due.is(what + ", cost", x.firstCost(id), cost);
    }

    private static void theFirstCoreThatDoesNotMissTakesIt() {
        Due.sentence(PLACE, "the first core (0 first) that doesn't miss with the part (c, d, p) added takes it");
        SemiPartEdf x = Made.with(3, 1, 2, 2, 1, 2, 2, 1, 2, 2, 2, 2, 2, 1, 2, 2);
        int[] cores = {0, 0, 1, 2, 1};
        for (int id = 0; id < 5; id++) {
            whole("task " + id, x, id, cores[id], id == 3 ? 2 : 1);
        }
        Due.is("all are full", x.admit(1, 60, 60), SemiPartEdf.NO_CORE);
        // The load leaves core 0 half of its slots, but not the ones that the task needs.
        SemiPartEdf early = Made.with(3, 1, 1, 2, 1, 1, 2, 1, 2, 2);
        whole("due at once", early, 1, 1, 1);
        whole("due later", early, 2, 0, 1);
    }

    private static void core0IsTheFirst() {
        Due.sentence(PLACE, "the first core (0 first) that doesn't miss with the part (c, d, p) added takes it");
        // Core 1 has more room, and core 2 all of it, but core 0 has enough.
        SemiPartEdf x = Made.with(3, 50, 60, 60, 20, 60, 60);
        Due.is("a task of ten", x.admit(10, 60, 60), 2);
        whole("a task of ten", x, 2, 0, 10);
    }

    private static void theLastCoreIsTriedToo() {
        Due.sentence(PLACE, "the first core (0 first) that doesn't miss with the part (c, d, p) added takes it");
        for (int cores = 1; cores <= 3; cores++) {
            SemiPartEdf x = new SemiPartEdf(cores);
            for (int id = 0; id < cores; id++) {
                Due.is("task of all slots", x.admit(60, 60, 60), id);
                whole("task of all slots", x, id, id, 60);
            }
        }
    }

    private static void onlyCoresThatThereAreAreTried() {
        Due.sentence(PLACE, "the first core (0 first) that doesn't miss with the part (c, d, p) added takes it");
        Due.is("one core", Made.with(1, 60, 60, 60).admit(1, 60, 60), SemiPartEdf.NO_CORE);
        Due.is("two cores", Made.with(2, 60, 60, 60, 60, 60, 60).admit(1, 60, 60), SemiPartEdf.NO_CORE);
        SemiPartEdf three = Made.with(3, 60, 60, 60, 60, 60, 60, 60, 60, 60);
        Due.is("three cores", three.admit(1, 60, 60), SemiPartEdf.NO_CORE);
    }

    private static void aCoreIsTakenUpToItsLastSlot() {
        Due.sentence(PLACE, "the first core (0 first) that doesn't miss with the part (c, d, p) added takes it");
        for (int p : Made.PERIODS) {
            SemiPartEdf x = Made.with(2, p - 1, p, p, 1, p, p, 1, p, p);
            whole("all but one slot of " + p, x, 0, 0, p - 1);
            whole("the last slot of " + p, x, 1, 0, 1);
            whole("one slot too many of " + p, x, 2, 1, 1);
        }
    }

    private static void aCoreThatATaskHasLeftIsTriedAgain() {
        Due.sentence(PLACE, "the first core (0 first) that doesn't miss with the part (c, d, p) added takes it");
        SemiPartEdf x = Made.with(2, 60, 60, 60, 30, 60, 60);
        x.remove(0);
        Due.is("back to core 0", x.admit(30, 60, 60), 0);
        whole("back to core 0", x, 0, 0, 30);
    }

    private static void wholeOnTheLastCoreComesBeforeSplit() {
        Due.sentence(PLACE, "SPLIT: if there is none");
        // Core 0 and core 1 could share it, but core 2 takes it whole.
        SemiPartEdf x = Made.with(3, 6, 10, 10, 6, 10, 10, 5, 10, 10);
        whole("whole on core 2", x, 2, 2, 5);
    }
}
