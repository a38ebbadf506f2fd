/** Promise 1: A new object. */
public final class Promise1NewObjectTest {
    private static final String PLACE = "Promise 1";

    public static void main(String[] args) {
        belowOneBecomesOne();
        oneToThreeStay();
        aboveThreeBecomesThree();
        aNewObjectHasNoTasks();
        aNewObjectSharesNoTasksWithAnother();
        Due.end();
    }

    private static void belowOneBecomesOne() {
        Due.sentence(PLACE, "below 1 becomes 1");
        for (int asked : new int[] {0, -1, -2, -3, -4, -60, Made.LEAST + 1, Made.LEAST}) {
            hasCores(asked, 1);
        }
    }

    private static void oneToThreeStay() {
        Due.sentence(PLACE, "cores is clamped into 1 to 3");
        for (int asked = 1; asked <= 3; asked++) {
            hasCores(asked, asked);
        }
    }

    private static void aboveThreeBecomesThree() {
        Due.sentence(PLACE, "above 3 becomes 3");
        for (int asked : new int[] {4, 5, 6, 7, 12, 13, 60, 256, 65536, Made.MOST - 1, Made.MOST}) {
            hasCores(asked, 3);
        }
    }

    // Each core takes one task that needs all of it, and the next such task finds none.
    private static void hasCores(int asked, int cores) {
        String made = "made with " + asked + " cores, ";
        SemiPartEdf x = new SemiPartEdf(asked);
        for (int core = 0; core < cores; core++) {
            Due.is(made + "load(" + core + ")", x.load(core), 0);
            Due.is(made + "task " + core, x.admit(60, 60, 60), core);
            Due.is(made + "its core", x.core(core), core);
        }
        Due.is(made + "one task more", x.admit(60, 60, 60), SemiPartEdf.NO_CORE);
        for (int core : Made.noCores(cores)) {
            Due.is(made + "load(" + core + ")", x.load(core), SemiPartEdf.BAD_CORE);
        }
    }

    private static void aNewObjectHasNoTasks() {
        Due.sentence(PLACE, "No tasks.");
        for (int cores = 1; cores <= 3; cores++) {
            SemiPartEdf x = new SemiPartEdf(cores);
            for (int id = 0; id < 12; id++) {
                Due.is("core(" + id + ")", x.core(id), SemiPartEdf.NO_TASK);
                Due.is("secondCore(" + id + ")", x.secondCore(id), SemiPartEdf.NO_TASK);
                Due.is("firstCost(" + id + ")", x.firstCost(id), SemiPartEdf.NO_TASK);
                Due.is("remove(" + id + ")", x.remove(id), SemiPartEdf.NO_TASK);
            }
            for (int core = 0; core < cores; core++) {
                Made.runs("a new object", x, core, SemiPartEdf.NO_TASK);
                Due.is("load(" + core + ")", x.load(core), 0);
                Due.is("response(" + core + ", 0)", x.response(core, 0), SemiPartEdf.NO_TASK);
                Due.is("spare(" + core + ", 60)", x.spare(core, 60), 60);
            }
            Due.is("the first task", x.admit(1, 1, 2), 0);
            Due.is("tasks left without it", x.remove(0), 0);
        }
    }

    private static void aNewObjectSharesNoTasksWithAnother() {
        Due.sentence(PLACE, "No tasks.");
        SemiPartEdf before = Made.split();
        SemiPartEdf x = new SemiPartEdf(3);
        before.admit(1, 5, 5);
        before.remove(0);
        Due.same("another object's tasks", Made.picture(x), Made.picture(new SemiPartEdf(3)));
    }
}
