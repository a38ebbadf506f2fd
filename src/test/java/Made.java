import java.util.function.ToIntBiFunction;

/** The objects and the inputs that several tests start from. */
final class Made {
    static final int LEAST = Integer.MIN_VALUE;
    static final int MOST = Integer.MAX_VALUE;
    static final int[] PERIODS = {2, 3, 4, 5, 6, 10, 12, 15, 20, 30, 60};
    /** Ids that no task ever has. */
    static final int[] NEVER_IDS = {LEAST, LEAST + 1, -60, -13, -12, -5, -4, -1, 12, 13, 14, 39, 60, MOST - 1, MOST};

    private Made() {
    }

    /** An object with these tasks, each given as cost, deadline, period. */
    static SemiPartEdf with(int cores, int... tasks) {
        SemiPartEdf x = new SemiPartEdf(cores);
        for (int k = 0; k < tasks.length; k += 3) {
            Due.is("the task that the test starts with", x.admit(tasks[k], tasks[k + 1], tasks[k + 2]), k / 3);
        }
        return x;
    }

    /** Both cores keep two of five slots, so task 2 is split: two slots on core 0 and one on core 1. */
    static SemiPartEdf split() {
        return with(2, 3, 5, 5, 3, 5, 5, 3, 5, 5);
    }

    /** Twelve tasks of one slot in 60, all on core 0. */
    static SemiPartEdf twelve(int cores) {
        SemiPartEdf x = new SemiPartEdf(cores);
        for (int id = 0; id < 12; id++) {
            Due.is("one of the twelve tasks that the test starts with", x.admit(1, 60, 60), id);
        }
        return x;
    }

    /** The numbers that are no core of an object with so many of them. */
    static int[] noCores(int cores) {
        return new int[] {LEAST, LEAST + 1, -4, -1, cores, cores + 1, 4, 12, 13, 60, MOST - 1, MOST};
    }

    static boolean isPeriod(int p) {
        for (int good : PERIODS) {
            if (good == p) {
                return true;
            }
        }
        return false;
    }

    /** A call that takes an id alone answers NO_TASK for every id that no task has, or has any more. */
    static void knowsNoTask(String name, ToIntBiFunction<SemiPartEdf, Integer> call) {
        SemiPartEdf x = split();
        for (int id : NEVER_IDS) {
            Due.is(name + "(" + id + ")", call.applyAsInt(x, id), SemiPartEdf.NO_TASK);
        }
        for (int id = 3; id < 12; id++) {
            Due.is(name + "(" + id + ")", call.applyAsInt(x, id), SemiPartEdf.NO_TASK);
        }
        for (int id = 0; id < 3; id++) {
            x.remove(id);
            Due.is(name + "(" + id + ") behind remove", call.applyAsInt(x, id), SemiPartEdf.NO_TASK);
        }
        // Where there are twelve tasks, spare tries its part under the id 12.
        SemiPartEdf full = twelve(1);
        full.spare(0, 60);
        Due.is(name + "(12) behind spare", call.applyAsInt(full, 12), SemiPartEdf.NO_TASK);
    }

    /** Each slot of a core against an order that repeats, slot 59 the last. */
    static void runs(String what, SemiPartEdf x, int core, int... order) {
        for (int slot = 0; slot < 60; slot++) {
            Due.is(what + ", core " + core + " in slot " + slot, x.running(core, slot), order[slot % order.length]);
        }
    }

    /**
     * All that an object tells, and how it takes its next task, in 281 calls: one picture in an object's life.
     * Something left behind under a free id shows only when a task has that id, on whatever core.
     */
    static String picture(SemiPartEdf x) {
        StringBuilder told = new StringBuilder();
        for (int id = -1; id < 13; id++) {
            told.append("task ").append(id).append(": core ").append(x.core(id));
            told.append(", second core ").append(x.secondCore(id));
            told.append(", first cost ").append(x.firstCost(id)).append('\n');
        }
        for (int core = 0; core < 3; core++) {
            told.append("core ").append(core).append(": load ").append(x.load(core));
            told.append(", spare ").append(x.spare(core, 60)).append(' ').append(x.spare(core, 4)).append(", runs");
            for (int slot = 0; slot < 60; slot++) {
                told.append(' ').append(x.running(core, slot));
            }
            told.append(", responses");
            for (int id = 0; id < 13; id++) {
                told.append(' ').append(x.response(core, id));
            }
            told.append('\n');
        }
        told.append("next task: ").append(x.admit(1, 60, 60)).append('\n');
        for (int core = 0; core < 3; core++) {
            told.append("core ").append(core).append(" with it: load ").append(x.load(core));
            told.append(", spare ").append(x.spare(core, 60));
            told.append(", last slot ").append(x.running(core, 59)).append('\n');
        }
        told.append("left without task 0: ").append(x.remove(0)).append('\n');
        return told.toString();
    }
}
