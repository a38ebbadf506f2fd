/** One method for each promise of the document, with answers worked out by hand. */
public final class PromisesTest {
    private static final int BAD_PERIOD = -1;
    private static final int BAD_COST = -2;
    private static final int FULL = -3;
    private static final int NO_CORE = -4;
    private static final int NO_TASK = -5;
    private static final int BAD_CORE = -6;
    private static final int BAD_TIME = -7;
    private static final int LEAST = Integer.MIN_VALUE;
    private static final int MOST = Integer.MAX_VALUE;

    public static void main(String[] args) {
        newObject();
        admitWrongInputs();
        admitWhole();
        admitSplit();
        admitSplitOrder();
        admitRefusedChangesNothing();
        admitFullAndIds();
        coreMissesAtItsEdges();
        removeTask();
        coreOfTask();
        secondCoreOfTask();
        firstCostOfTask();
        loadOfCore();
        runningInSlot();
        responseOfPart();
        spareOfCore();
        spareWithTwelveTasks();
        orderOfTests();
        Due.end();
    }

    // Core 0 and core 1 each keep two of five slots, so the third task is split: two slots first, one later.
    private static SemiPartEdf withSplitTask() {
        SemiPartEdf x = new SemiPartEdf(2);
        x.admit(3, 5, 5);
        x.admit(3, 5, 5);
        Due.is("the split task", x.admit(3, 5, 5), 2);
        return x;
    }

    private static SemiPartEdf withTwelveTasks() {
        SemiPartEdf x = new SemiPartEdf(1);
        for (int id = 0; id < 12; id++) {
            Due.is("small task", x.admit(1, 60, 60), id);
        }
        return x;
    }

    private static void newObject() {
        int[] asked = {LEAST, -1, 0, 1, 2, 3, 4, MOST};
        int[] made = {1, 1, 1, 1, 2, 3, 3, 3};
        for (int k = 0; k < asked.length; k++) {
            SemiPartEdf x = new SemiPartEdf(asked[k]);
            for (int core = 0; core < 4; core++) {
                Due.is("1: cores " + asked[k] + " load " + core, x.load(core), core < made[k] ? 0 : BAD_CORE);
            }
            for (int id = 0; id < 13; id++) {
                Due.is("1: no task " + id, x.core(id), NO_TASK);
            }
            for (int slot = 0; slot < 60; slot++) {
                Due.is("1: idle", x.running(0, slot), NO_TASK);
            }
        }
    }

    private static void admitWrongInputs() {
        SemiPartEdf x = new SemiPartEdf(1);
        for (int p = -61; p <= 130; p++) {
            boolean good = p >= 2 && p <= 60 && 60 % p == 0;
            int answer = x.admit(1, 1, p);
            Due.is("2: period " + p, answer, good ? 0 : BAD_PERIOD);
            x.remove(0);
        }
        Due.is("2: least period", x.admit(1, 1, LEAST), BAD_PERIOD);
        Due.is("2: most period", x.admit(1, 1, MOST), BAD_PERIOD);
        Due.is("2: period before cost", x.admit(0, 0, 7), BAD_PERIOD);
        Due.is("2: cost 0", x.admit(0, 5, 10), BAD_COST);
        Due.is("2: cost below 0", x.admit(-1, 5, 10), BAD_COST);
        Due.is("2: least cost", x.admit(LEAST, 5, 10), BAD_COST);
        Due.is("2: cost over deadline", x.admit(6, 5, 10), BAD_COST);
        Due.is("2: cost over period", x.admit(11, 11, 10), BAD_COST);
        Due.is("2: most cost", x.admit(MOST, MOST, 10), BAD_COST);
        Due.is("2: deadline 0", x.admit(1, 0, 10), BAD_COST);
        Due.is("2: deadline below 0", x.admit(1, -1, 10), BAD_COST);
        Due.is("2: least both", x.admit(LEAST, LEAST, 10), BAD_COST);
        Due.is("2: deadline over period", x.admit(1, 11, 10), BAD_COST);
        Due.is("2: all equal", x.admit(10, 10, 10), 0);
    }

    private static void admitWhole() {
        SemiPartEdf x = new SemiPartEdf(3);
        Due.is("2: first", x.admit(1, 2, 2), 0);
        Due.is("2: exactly fits", x.admit(1, 2, 2), 1);
        Due.is("2: next core", x.admit(1, 2, 2), 2);
        Due.is("2: needs core 2", x.admit(2, 2, 2), 3);
        Due.is("2: back to core 1", x.admit(1, 2, 2), 4);
        int[] cores = {0, 0, 1, 2, 1};
        for (int id = 0; id < 5; id++) {
            Due.is("2: core of " + id, x.core(id), cores[id]);
            Due.is("2: whole " + id, x.secondCore(id), NO_CORE);
        }
        Due.is("2: no core left", x.admit(1, 60, 60), NO_CORE);
    }

    private static void admitSplit() {
        SemiPartEdf x = withSplitTask();
        Due.is("2: split core", x.core(2), 0);
        Due.is("2: split second core", x.secondCore(2), 1);
        Due.is("2: split first cost", x.firstCost(2), 2);
        Due.is("2: split load 0", x.load(0), 60);
        Due.is("2: split load 1", x.load(1), 48);
        Due.is("2: one slot left", x.admit(1, 5, 5), 3);
        Due.is("2: nothing left", x.admit(1, 60, 60), NO_CORE);
        SemiPartEdf one = new SemiPartEdf(1);
        one.admit(3, 5, 5);
        Due.is("2: no split on one core", one.admit(3, 5, 5), NO_CORE);
        SemiPartEdf least = new SemiPartEdf(2);
        least.admit(4, 5, 5);
        least.admit(4, 5, 5);
        Due.is("2: x may be 1", least.admit(2, 5, 5), 2);
        Due.is("2: x is 1", least.firstCost(2), 1);
        // Every other slot is free, so no first part could be done as soon as it is due.
        SemiPartEdf early = new SemiPartEdf(2);
        early.admit(1, 1, 2);
        early.admit(1, 1, 2);
        Due.is("2: a first part is due at its cost", early.admit(3, 4, 4), NO_CORE);
        // Core 1 has its free slots from 6 on: (1, 9, 10) would fit there, but (1, 5, 10) doesn't.
        SemiPartEdf rest = new SemiPartEdf(2);
        rest.admit(6, 10, 10);
        rest.admit(6, 6, 10);
        Due.is("2: a second part is due x slots earlier", rest.admit(5, 9, 10), NO_CORE);
    }

    private static void admitSplitOrder() {
        SemiPartEdf late = new SemiPartEdf(3);
        late.admit(2, 2, 2);
        late.admit(3, 5, 5);
        late.admit(3, 5, 5);
        Due.is("2: core 0 is full", late.admit(3, 5, 5), 3);
        Due.is("2: smallest first core that can", late.core(3), 1);
        Due.is("2: and its second core", late.secondCore(3), 2);
        // Core 0 has only the slots 3, 4, 8, 9 free: no first part of four, but the second part of one.
        SemiPartEdf back = new SemiPartEdf(2);
        back.admit(3, 3, 5);
        back.admit(6, 10, 10);
        Due.is("2: first part behind", back.admit(5, 10, 10), 2);
        Due.is("2: first part on core 1", back.core(2), 1);
        Due.is("2: second part on core 0", back.secondCore(2), 0);
        Due.is("2: greatest x", back.firstCost(2), 4);
        // All three cores keep four of ten slots: the smallest first core, then the smallest other one.
        SemiPartEdf even = new SemiPartEdf(3);
        even.admit(6, 10, 10);
        even.admit(6, 10, 10);
        even.admit(6, 10, 10);
        Due.is("2: even", even.admit(5, 10, 10), 3);
        Due.is("2: even first", even.core(3), 0);
        Due.is("2: even second", even.secondCore(3), 1);
        Due.is("2: even greatest x", even.firstCost(3), 4);
        // Core 0 has no slot left and core 1 three, so only core 2 takes the greatest first part.
        Due.is("2: greatest x before smallest core", even.admit(5, 10, 10), 4);
        Due.is("2: greatest x on core 2", even.core(4), 2);
        Due.is("2: rest on core 1", even.secondCore(4), 1);
        Due.is("2: four on core 2", even.firstCost(4), 4);
    }

    private static void admitRefusedChangesNothing() {
        SemiPartEdf x = withSplitTask();
        long before = picture(x);
        Due.is("2: refused", x.admit(2, 5, 5), NO_CORE);
        Due.is("2: bad period", x.admit(1, 1, 8), BAD_PERIOD);
        Due.is("2: bad cost", x.admit(2, 1, 5), BAD_COST);
        Due.is("2: nothing changed", picture(x), before);
        Due.is("2: id still free", x.core(3), NO_TASK);
        Due.is("2: still three tasks", x.remove(0), 2);
        SemiPartEdf full = withTwelveTasks();
        before = picture(full);
        Due.is("2: full", full.admit(1, 60, 60), FULL);
        Due.is("2: full changed nothing", picture(full), before);
    }

    private static void admitFullAndIds() {
        SemiPartEdf x = withTwelveTasks();
        Due.is("2: thirteenth", x.admit(1, 60, 60), FULL);
        Due.is("2: full before no core", x.admit(60, 60, 60), FULL);
        Due.is("2: cost before full", x.admit(2, 1, 60), BAD_COST);
        Due.is("2: period before full", x.admit(1, 1, 61), BAD_PERIOD);
        Due.is("2: eleven left", x.remove(7), 11);
        Due.is("2: ten left", x.remove(3), 10);
        Due.is("2: smallest free id", x.admit(1, 60, 60), 3);
        Due.is("2: next free id", x.admit(1, 60, 60), 7);
        Due.is("2: full again", x.admit(1, 60, 60), FULL);
        Due.is("2: last id goes", x.remove(11), 11);
        Due.is("2: last id comes back", x.admit(1, 60, 60), 11);
    }

    private static void coreMissesAtItsEdges() {
        SemiPartEdf x = new SemiPartEdf(1);
        Due.is("2: whole core", x.admit(60, 60, 60), 0);
        Due.is("2: whole core is taken", x.admit(1, 60, 60), NO_CORE);
        SemiPartEdf last = new SemiPartEdf(1);
        last.admit(30, 60, 60);
        Due.is("2: fills the last slot", last.admit(15, 30, 30), 1);
        Due.is("2: misses at deadline 60 only", last.admit(1, 60, 60), NO_CORE);
        SemiPartEdf tight = new SemiPartEdf(1);
        tight.admit(2, 3, 10);
        Due.is("2: one slot too late", tight.admit(2, 3, 60), NO_CORE);
        Due.is("2: just in time", tight.admit(2, 4, 60), 1);
        // Of the jobs due by slot 28 these need 26 slots; the load alone would leave six of 60.
        SemiPartEdf later = new SemiPartEdf(1);
        later.admit(2, 4, 6);
        later.admit(4, 8, 10);
        Due.is("2: ten slots by slot 10", later.admit(2, 10, 12), 2);
        Due.is("2: misses at 28", later.admit(3, 28, 30), NO_CORE);
        Due.is("2: just holds at 28", later.admit(2, 28, 30), 3);
    }

    private static void removeTask() {
        SemiPartEdf x = withSplitTask();
        int[] none = {LEAST, -5, -1, 3, 11, 12, 13, 39, MOST};
        for (int id : none) {
            Due.is("3: no task " + id, x.remove(id), NO_TASK);
        }
        Due.is("3: split task", x.remove(2), 2);
        Due.is("3: first part is gone", x.load(0), 36);
        Due.is("3: second part is gone", x.load(1), 36);
        Due.is("3: no response on core 0", x.response(0, 2), NO_TASK);
        Due.is("3: no response on core 1", x.response(1, 2), NO_TASK);
        Due.is("3: gone already", x.remove(2), NO_TASK);
        Due.is("3: its id is free", x.admit(1, 5, 5), 2);
        Due.is("3: no second part came back", x.load(1), 36);
        Due.is("3: nor runs", x.running(1, 0), 1);
        Due.is("3: two left again", x.remove(2), 2);
        Due.is("3: one left", x.remove(0), 1);
        Due.is("3: none left", x.remove(1), 0);
        Due.is("3: nobody there", x.remove(0), NO_TASK);
        Due.is("3: whole task after a split one", x.admit(5, 5, 5), 0);
        Due.is("3: it is whole", x.secondCore(0), NO_CORE);
        Due.is("3: core 1 is empty", x.load(1), 0);
    }

    private static void coreOfTask() {
        SemiPartEdf x = withSplitTask();
        Due.is("4: whole on 0", x.core(0), 0);
        Due.is("4: whole on 1", x.core(1), 1);
        Due.is("4: split", x.core(2), 0);
        for (int id : new int[] {LEAST, -1, 3, 12, 13, MOST}) {
            Due.is("4: no task " + id, x.core(id), NO_TASK);
        }
        x.remove(0);
        Due.is("4: removed", x.core(0), NO_TASK);
    }

    private static void secondCoreOfTask() {
        SemiPartEdf x = withSplitTask();
        Due.is("5: whole", x.secondCore(0), NO_CORE);
        Due.is("5: split", x.secondCore(2), 1);
        for (int id : new int[] {LEAST, -1, 3, 12, 13, MOST}) {
            Due.is("5: no task " + id, x.secondCore(id), NO_TASK);
        }
        x.remove(2);
        Due.is("5: removed", x.secondCore(2), NO_TASK);
    }

    private static void firstCostOfTask() {
        SemiPartEdf x = withSplitTask();
        Due.is("6: whole", x.firstCost(1), 3);
        Due.is("6: split", x.firstCost(2), 2);
        for (int id : new int[] {LEAST, -1, 3, 12, 13, MOST}) {
            Due.is("6: no task " + id, x.firstCost(id), NO_TASK);
        }
        x.remove(1);
        Due.is("6: removed", x.firstCost(1), NO_TASK);
    }

    private static void loadOfCore() {
        SemiPartEdf x = new SemiPartEdf(2);
        x.admit(2, 7, 12);
        Due.is("7: one part", x.load(0), 10);
        x.admit(7, 50, 60);
        Due.is("7: two parts", x.load(0), 17);
        Due.is("7: empty core", x.load(1), 0);
        for (int core : new int[] {LEAST, -1, 2, 3, MOST}) {
            Due.is("7: no core " + core, x.load(core), BAD_CORE);
        }
        Due.is("7: split counts on both", withSplitTask().load(1), 48);
    }

    private static void runningInSlot() {
        SemiPartEdf x = withSplitTask();
        int[] onZero = {2, 2, 0, 0, 0};
        int[] onOne = {2, 1, 1, 1, NO_TASK};
        for (int slot = 0; slot < 60; slot++) {
            Due.is("8: core 0 slot " + slot, x.running(0, slot), onZero[slot % 5]);
            Due.is("8: core 1 slot " + slot, x.running(1, slot), onOne[slot % 5]);
        }
        for (int slot : new int[] {LEAST, -1, 60, 61, MOST}) {
            Due.is("8: slot " + slot, x.running(0, slot), BAD_TIME);
        }
        for (int core : new int[] {LEAST, -1, 2, 3, MOST}) {
            Due.is("8: core " + core, x.running(core, 0), BAD_CORE);
        }
        // Task 1 was there first, but of equal deadlines the smaller id runs.
        SemiPartEdf tie = new SemiPartEdf(1);
        tie.admit(1, 10, 10);
        tie.admit(2, 10, 10);
        tie.remove(0);
        tie.admit(3, 10, 10);
        int[] due = {0, 0, 0, 1, 1, NO_TASK};
        for (int slot = 0; slot < due.length; slot++) {
            Due.is("8: tie in slot " + slot, tie.running(0, slot), due[slot]);
        }
        // The job of task 0 is stopped by a later one that is due earlier, and goes on afterwards.
        SemiPartEdf stopped = new SemiPartEdf(1);
        stopped.admit(8, 20, 20);
        stopped.admit(2, 3, 5);
        int[] order = {1, 1, 0, 0, 0, 1, 1, 0, 0, 0, 1, 1, 0, 0, NO_TASK, 1, 1, NO_TASK};
        for (int slot = 0; slot < order.length; slot++) {
            Due.is("8: stopped in slot " + slot, stopped.running(0, slot), order[slot]);
        }
    }

    private static void responseOfPart() {
        SemiPartEdf x = withSplitTask();
        Due.is("9: behind the first part", x.response(0, 0), 5);
        Due.is("9: behind the second part", x.response(1, 1), 4);
        Due.is("9: first part", x.response(0, 2), 2);
        Due.is("9: second part", x.response(1, 2), 1);
        Due.is("9: not on this core", x.response(1, 0), NO_TASK);
        for (int id : new int[] {LEAST, -1, 3, 12, 13, MOST}) {
            Due.is("9: no task " + id, x.response(0, id), NO_TASK);
        }
        for (int core : new int[] {LEAST, -1, 2, 3, MOST}) {
            Due.is("9: core " + core, x.response(core, 0), BAD_CORE);
        }
        SemiPartEdf stopped = new SemiPartEdf(1);
        stopped.admit(8, 20, 20);
        stopped.admit(2, 3, 5);
        Due.is("9: stopped twice", stopped.response(0, 0), 14);
        // Task 1's first job runs at once, but that of slot 12 waits for task 0's job of slot 10.
        SemiPartEdf worst = new SemiPartEdf(1);
        worst.admit(5, 8, 10);
        worst.admit(1, 7, 12);
        Due.is("9: not the first job", worst.response(0, 1), 4);
        SemiPartEdf whole = new SemiPartEdf(1);
        whole.admit(60, 60, 60);
        Due.is("9: whole core", whole.response(0, 0), 60);
    }

    private static void spareOfCore() {
        SemiPartEdf x = new SemiPartEdf(2);
        for (int p = -61; p <= 130; p++) {
            boolean good = p >= 2 && p <= 60 && 60 % p == 0;
            Due.is("10: empty core, period " + p, x.spare(1, p), good ? p : BAD_PERIOD);
        }
        Due.is("10: least period", x.spare(0, LEAST), BAD_PERIOD);
        Due.is("10: most period", x.spare(0, MOST), BAD_PERIOD);
        x.admit(3, 3, 5);
        Due.is("10: period 2", x.spare(0, 2), 0);
        Due.is("10: period 4", x.spare(0, 4), 1);
        Due.is("10: period 5", x.spare(0, 5), 2);
        Due.is("10: period 60", x.spare(0, 60), 24);
        Due.is("10: other core", x.spare(1, 60), 60);
        for (int core : new int[] {LEAST, -1, 2, 3, MOST}) {
            Due.is("10: core " + core, x.spare(core, 60), BAD_CORE);
        }
        long before = picture(x);
        x.spare(0, 60);
        Due.is("10: changes nothing", picture(x), before);
        Due.is("10: no task came", x.core(1), NO_TASK);
    }

    private static void spareWithTwelveTasks() {
        SemiPartEdf x = withTwelveTasks();
        Due.is("10: twelve tasks, period 60", x.spare(0, 60), 48);
        Due.is("10: twelve tasks, period 10", x.spare(0, 10), 8);
        Due.is("10: all twelve stay", x.remove(0), 11);
        Due.is("10: id 12 was not left behind", x.response(0, 12), NO_TASK);
        Due.is("10: load is the tasks' own", x.load(0), 11);
        Due.is("10: the core idles behind them", x.running(0, 12), NO_TASK);
    }

    private static void orderOfTests() {
        SemiPartEdf x = new SemiPartEdf(1);
        Due.is("11: running", x.running(1, 60), BAD_CORE);
        Due.is("11: running", x.running(-1, -1), BAD_CORE);
        Due.is("11: response", x.response(1, 0), BAD_CORE);
        Due.is("11: response", x.response(-1, -1), BAD_CORE);
        Due.is("11: spare", x.spare(1, 7), BAD_CORE);
        Due.is("11: spare", x.spare(-1, 0), BAD_CORE);
        Due.is("11: secondCore", x.secondCore(0), NO_TASK);
    }

    // All that the asking calls tell, folded into one number.
    private static long picture(SemiPartEdf x) {
        long sum = 17;
        for (int id = 0; id < 13; id++) {
            sum = sum * 31 + x.core(id);
            sum = sum * 31 + x.secondCore(id);
            sum = sum * 31 + x.firstCost(id);
        }
        for (int core = 0; core < 3; core++) {
            sum = sum * 31 + x.load(core);
            // Some slots only: an object answers for 512 calls, and two pictures are taken of it.
            for (int slot = 0; slot < 60; slot += 7) {
                sum = sum * 31 + x.running(core, slot);
            }
            for (int id = 0; id < 13; id++) {
                sum = sum * 31 + x.response(core, id);
            }
        }
        return sum;
    }
}
