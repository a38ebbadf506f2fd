public final class SemiPartEdf {
    public static final int BAD_PERIOD = -1;
    public static final int BAD_COST = -2;
    public static final int FULL = -3;
    public static final int NO_CORE = -4;
    public static final int NO_TASK = -5;
    public static final int BAD_CORE = -6;
    public static final int BAD_TIME = -7;

    private static final int MAX_CORES = 3;
    private static final int MAX_TASKS = 12;
    // One id more than there can be tasks: spare tries its part under id 12 when all twelve are taken.
    private static final int IDS = 13;
    private static final int PARTS = 39;
    // Every period divides 60, so a core repeats after that many slots.
    private static final int CYCLE = 60;

    private final int cores;
    private int taskCount = 0;

    // By task id; a period of 0 means that no task has the id.
    private final int[] taskPeriod = new int[IDS];
    private final int[] taskFirstCore = new int[IDS];
    private final int[] taskSecondCore = new int[IDS];

    // By core * IDS + id; a cost of 0 means that the task has no part on the core.
    private final int[] partCost = new int[PARTS];
    private final int[] partDeadline = new int[PARTS];

    // The core under test, by id: a copy, so that trying a part out never touches the admitted ones.
    private final int[] testCost = new int[IDS];
    private final int[] testDeadline = new int[IDS];
    private final int[] testPeriod = new int[IDS];

    // What the last run of the core under test left behind.
    private final int[] jobLeft = new int[IDS];
    private final int[] jobDue = new int[IDS];
    private final int[] longestResponse = new int[IDS];
    private final int[] ranInSlot = new int[CYCLE];

    public SemiPartEdf(int cores) {
        this.cores = cores < 1 ? 1 : cores > MAX_CORES ? MAX_CORES : cores;
    }

    public int admit(int c, int d, int p) {
        if (!isPeriod(p)) {
            return BAD_PERIOD;
        }
        if (c < 1 || d > p || c > d) {
            return BAD_COST;
        }
        if (taskCount >= MAX_TASKS) {
            return FULL;
        }
        int id = smallestFreeId();
        if (placeWhole(id, c, d, p) || placeSplit(id, c, d, p)) {
            taskCount++;
            return id;
        }
        return NO_CORE;
    }

    public int remove(int id) {
        if (!isTask(id)) {
            return NO_TASK;
        }
        for (int core = 0; core < MAX_CORES; core++) {
            setPart(core, id, 0, 0);
        }
        taskPeriod[id] = 0;
        taskCount--;
        return taskCount;
    }

    public int core(int id) {
        return isTask(id) ? taskFirstCore[id] : NO_TASK;
    }

    public int secondCore(int id) {
        return isTask(id) ? taskSecondCore[id] : NO_TASK;
    }

    public int firstCost(int id) {
        return isTask(id) ? partCost[taskFirstCore[id] * IDS + id] : NO_TASK;
    }

    public int load(int core) {
        if (!isCore(core)) {
            return BAD_CORE;
        }
        int sum = 0;
        for (int id = 0; id < MAX_TASKS; id++) {
            if (taskPeriod[id] > 0) {
                sum += partCost[core * IDS + id] * (CYCLE / taskPeriod[id]);
            }
        }
        return sum;
    }

    public int running(int core, int slot) {
        if (!isCore(core)) {
            return BAD_CORE;
        }
        if (slot < 0 || slot >= CYCLE) {
            return BAD_TIME;
        }
        takeUnderTest(core);
        runWithoutMiss();
        return ranInSlot[slot];
    }

    public int response(int core, int id) {
        if (!isCore(core)) {
            return BAD_CORE;
        }
        if (!isTask(id) || partCost[core * IDS + id] == 0) {
            return NO_TASK;
        }
        takeUnderTest(core);
        runWithoutMiss();
        return longestResponse[id];
    }

    public int spare(int core, int p) {
        if (!isCore(core)) {
            return BAD_CORE;
        }
        if (!isPeriod(p)) {
            return BAD_PERIOD;
        }
        int id = smallestFreeId();
        for (int x = p; x >= 1; x--) {
            if (fits(core, id, x, p, p)) {
                return x;
            }
        }
        return 0;
    }

    private boolean isPeriod(int p) {
        return p >= 2 && p <= CYCLE && CYCLE % p == 0;
    }

    private boolean isTask(int id) {
        return id >= 0 && id < MAX_TASKS && taskPeriod[id] > 0;
    }

    private boolean isCore(int core) {
        return core >= 0 && core < cores;
    }

    private int smallestFreeId() {
        for (int id = 0; id < MAX_TASKS; id++) {
            if (taskPeriod[id] == 0) {
                return id;
            }
        }
        return MAX_TASKS;
    }

    private boolean placeWhole(int id, int c, int d, int p) {
        for (int core = 0; core < cores; core++) {
            if (fits(core, id, c, d, p)) {
                setTask(id, p, core, NO_CORE);
                setPart(core, id, c, d);
                return true;
            }
        }
        return false;
    }

    private boolean placeSplit(int id, int c, int d, int p) {
        for (int x = c - 1; x >= 1; x--) {
            for (int first = 0; first < cores; first++) {
                for (int second = 0; second < cores; second++) {
                    if (first != second && fits(first, id, x, x, p) && fits(second, id, c - x, d - x, p)) {
                        setTask(id, p, first, second);
                        setPart(first, id, x, x);
                        setPart(second, id, c - x, d - x);
                        return true;
                    }
                }
            }
        }
        return false;
    }

    private void setTask(int id, int p, int first, int second) {
        taskPeriod[id] = p;
        taskFirstCore[id] = first;
        taskSecondCore[id] = second;
    }

    private void setPart(int core, int id, int c, int d) {
        partCost[core * IDS + id] = c;
        partDeadline[core * IDS + id] = d;
    }

    private boolean fits(int core, int id, int c, int d, int p) {
        takeUnderTest(core);
        testCost[id] = c;
        testDeadline[id] = d;
        testPeriod[id] = p;
        return runWithoutMiss();
    }

    private void takeUnderTest(int core) {
        for (int id = 0; id < IDS; id++) {
            testCost[id] = partCost[core * IDS + id];
            testDeadline[id] = partDeadline[core * IDS + id];
            testPeriod[id] = taskPeriod[id];
        }
    }

    // Ends at the first miss: up to there every part has at most one unfinished job, as its deadline
    // is not later than its next release, and so one counter for each id is enough.
    private boolean runWithoutMiss() {
        forgetLastRun();
        for (int slot = 0; slot < CYCLE; slot++) {
            if (isOverdue(slot)) {
                return false;
            }
            releaseJobs(slot);
            int id = mostUrgentJob();
            if (id != NO_TASK) {
                runJob(id, slot);
            }
        }
        return !isOverdue(CYCLE);
    }

    private void forgetLastRun() {
        for (int id = 0; id < IDS; id++) {
            jobLeft[id] = 0;
            jobDue[id] = 0;
            longestResponse[id] = 0;
        }
        for (int slot = 0; slot < CYCLE; slot++) {
            ranInSlot[slot] = NO_TASK;
        }
    }

    private boolean isOverdue(int slot) {
        for (int id = 0; id < IDS; id++) {
            if (jobLeft[id] > 0 && jobDue[id] <= slot) {
                return true;
            }
        }
        return false;
    }

    private void releaseJobs(int slot) {
        for (int id = 0; id < IDS; id++) {
            if (testCost[id] > 0 && testPeriod[id] > 0 && slot % testPeriod[id] == 0) {
                jobLeft[id] = testCost[id];
                jobDue[id] = slot + testDeadline[id];
            }
        }
    }

    private int mostUrgentJob() {
        int best = NO_TASK;
        for (int id = 0; id < IDS; id++) {
            // Strictly earlier only: of equal deadlines the smaller id, found first, stays.
            if (jobLeft[id] > 0 && (best == NO_TASK || jobDue[id] < jobDue[best])) {
                best = id;
            }
        }
        return best;
    }

    private void runJob(int id, int slot) {
        ranInSlot[slot] = id;
        jobLeft[id]--;
        if (jobLeft[id] == 0) {
            int released = jobDue[id] - testDeadline[id];
            int taken = slot - released + 1;
            if (taken > longestResponse[id]) {
                longestResponse[id] = taken;
            }
        }
    }
}
