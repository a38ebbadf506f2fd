/** The sentences of "Terms" that name a boundary: releases, deadlines, equal deadlines, misses. */
public final class TermsTest {
    private static final String PLACE = "Terms";
    private static final int IDLE = SemiPartEdf.NO_TASK;

    private static long state = 20261116L;
    private static int splitsInTime = 0;

    public static void main(String[] args) {
        aPartReleasesAJobInSlots0AndPAnd2P();
        aJobNeedsItsCostAndNoSlotMore();
        aJobMayHaveTheLastSlotBeforeItsDeadline();
        periodsAreTheDivisorsOf60From2To60();
        costDeadlineAndPeriodMayBeEqual();
        aJobRunsInItsReleaseSlotAndNotEarlier();
        aFinishedJobRunsNoMore();
        theEarliestDeadlineCountsFromTheRelease();
        aRunningJobGivesWayToAnEarlierDeadline();
        ofEqualDeadlinesTheSmallerIdRuns();
        aRunningJobGivesWayToASmallerIdWithItsDeadline();
        aRunningJobKeepsTheCoreFromAGreaterIdWithItsDeadline();
        aPartOfASplitTaskIsHeldByItsIdToo();
        theCoreIdlesIfThereIsNoJob();
        theNextJobIsReleasedBehindOneThatEndsInTheLastSlot();
        aMissAtDeadline60Counts();
        aMissAtTheFirstDeadlineCounts();
        aMissBetweenThemCounts();
        allPartsRepeatAfter60Slots();
        noCoreMissesWithAdmittedTasks();
        theAskingCallsChangeNothing();
        theAskingCallsLeaveLaterAnswersAsTheyAre();
        Due.end();
    }

    private static void aPartReleasesAJobInSlots0AndPAnd2P() {
        Due.sentence(PLACE, "releases a job in the slots 0, p, 2p, ..");
        for (int p : Made.PERIODS) {
            SemiPartEdf x = Made.with(1, 1, 1, p);
            for (int slot = 0; slot < 60; slot++) {
                Due.is("period " + p + " in slot " + slot, x.running(0, slot), slot % p == 0 ? 0 : IDLE);
            }
        }
    }

    private static void aJobNeedsItsCostAndNoSlotMore() {
        Due.sentence(PLACE, "a job released in slot r needs c slots of the core");
        for (int p : Made.PERIODS) {
            for (int c = 1; c <= p; c++) {
                SemiPartEdf x = Made.with(1, c, p, p);
                for (int slot = 0; slot < 60; slot++) {
                    Due.is("cost " + c + " of " + p + " in slot " + slot, x.running(0, slot), slot % p < c ? 0 : IDLE);
                }
            }
        }
    }

    // Task 0 has all slots before d - 1, so task 1 can only have the very last of its own.
    private static void aJobMayHaveTheLastSlotBeforeItsDeadline() {
        Due.sentence(PLACE, "must have them among the slots r to r + d - 1");
        for (int p : Made.PERIODS) {
            for (int d = 2; d <= p; d++) {
                String what = "deadline " + d + " of " + p;
                SemiPartEdf x = Made.with(1, d - 1, d - 1, p);
                Due.is(what + ", two slots", x.admit(2, d, p), SemiPartEdf.NO_CORE);
                Due.is(what + ", the last slot", x.admit(1, d, p), 1);
                Due.is(what + ", ran in the last slot", x.running(0, d - 1), 1);
                Due.is(what + ", the last job too", x.running(0, 60 - p + d - 1), 1);
                SemiPartEdf late = Made.with(1, d, d, p);
                Due.is(what + ", one slot too late", late.admit(1, d, p), SemiPartEdf.NO_CORE);
            }
        }
    }

    private static void periodsAreTheDivisorsOf60From2To60() {
        Due.sentence(PLACE, "Periods are the divisors of 60 from 2 to 60");
        for (int p = 0; p <= 121; p++) {
            int answer = new SemiPartEdf(1).admit(1, 1, p);
            Due.is("period " + p, answer, Made.isPeriod(p) ? 0 : SemiPartEdf.BAD_PERIOD);
        }
    }

    private static void costDeadlineAndPeriodMayBeEqual() {
        Due.sentence(PLACE, "1 <= c <= d <= p");
        for (int p : Made.PERIODS) {
            Due.is("1 = c = d, period " + p, new SemiPartEdf(1).admit(1, 1, p), 0);
            Due.is("1 = c, d = p, period " + p, new SemiPartEdf(1).admit(1, p, p), 0);
            Due.is("c = d = p, period " + p, new SemiPartEdf(1).admit(p, p, p), 0);
            Due.is("1 > c, period " + p, new SemiPartEdf(1).admit(0, p, p), SemiPartEdf.BAD_COST);
            Due.is("c > d, period " + p, new SemiPartEdf(1).admit(p, p - 1, p), SemiPartEdf.BAD_COST);
            Due.is("d > p, period " + p, new SemiPartEdf(1).admit(1, p + 1, p), SemiPartEdf.BAD_COST);
        }
    }

    private static void aJobRunsInItsReleaseSlotAndNotEarlier() {
        Due.sentence(PLACE, "their release slot is not later than this slot");
        SemiPartEdf x = Made.with(1, 1, 10, 30, 1, 20, 20);
        int[][] due = {{0, 0}, {1, 1}, {2, IDLE}, {19, IDLE}, {20, 1}, {21, IDLE}, {29, IDLE}, {30, 0}, {31, IDLE},
            {39, IDLE}, {40, 1}, {41, IDLE}, {59, IDLE}};
        for (int[] slot : due) {
            Due.is("slot " + slot[0], x.running(0, slot[0]), slot[1]);
        }
    }

    private static void aFinishedJobRunsNoMore() {
        Due.sentence(PLACE, "and not finished");
        Made.runs("finished behind two slots", Made.with(1, 2, 4, 5), 0, 0, 0, IDLE, IDLE, IDLE);
        Made.runs("finished ahead of the other", Made.with(1, 1, 2, 6, 3, 6, 6), 0, 0, 1, 1, 1, IDLE, IDLE);
    }

    // In slot 6 task 0's deadline is 6 + 5 = 11, and task 1's still 10, although 10 is more than 5.
    private static void theEarliestDeadlineCountsFromTheRelease() {
        Due.sentence(PLACE, "the one with the earliest deadline r + d runs for this slot");
        SemiPartEdf x = Made.with(1, 2, 5, 6, 7, 10, 30);
        int[] first = {0, 0, 1, 1, 1, 1, 1, 1, 1, 0, 0, IDLE, 0, 0, IDLE, IDLE, IDLE, IDLE, 0, 0};
        for (int slot = 0; slot < first.length; slot++) {
            Due.is("slot " + slot, x.running(0, slot), first[slot]);
            Due.is("slot " + (30 + slot), x.running(0, 30 + slot), first[slot]);
        }
        // Neither the shorter period nor the smaller cost counts.
        Made.runs("the longer period is due earlier", Made.with(1, 1, 5, 5, 3, 4, 10), 0,
            1, 1, 1, 0, IDLE, 0, IDLE, IDLE, IDLE, IDLE);
    }

    private static void aRunningJobGivesWayToAnEarlierDeadline() {
        Due.sentence(PLACE, "in every slot, of all its jobs that are released");
        Made.runs("stopped and gone on", Made.with(1, 8, 20, 20, 2, 3, 5), 0,
            1, 1, 0, 0, 0, 1, 1, 0, 0, 0, 1, 1, 0, 0, IDLE, 1, 1, IDLE, IDLE, IDLE);
    }

    private static void ofEqualDeadlinesTheSmallerIdRuns() {
        Due.sentence(PLACE, "of equal deadlines the one of the task with the smaller id");
        SemiPartEdf x = new SemiPartEdf(1);
        for (int id = 0; id < 12; id++) {
            Due.is("task", x.admit(5, 60, 60), id);
        }
        for (int slot = 0; slot < 60; slot++) {
            Due.is("twelve equal tasks in slot " + slot, x.running(0, slot), slot / 5);
        }
        // Task 1 was there before the new task 0, but its id is greater.
        SemiPartEdf again = Made.with(1, 1, 10, 10, 2, 10, 10);
        Due.is("task 0 goes", again.remove(0), 1);
        Due.is("task 0 comes again", again.admit(3, 10, 10), 0);
        Made.runs("the id came later", again, 0, 0, 0, 0, 1, 1, IDLE, IDLE, IDLE, IDLE, IDLE);
    }

    // In slot 5 task 0's second job comes, due in slot 10 like task 1's, which is running.
    private static void aRunningJobGivesWayToASmallerIdWithItsDeadline() {
        Due.sentence(PLACE, "of equal deadlines the one of the task with the smaller id");
        Made.runs("the smaller id comes later", Made.with(1, 1, 5, 5, 6, 10, 10), 0,
            0, 1, 1, 1, 1, 0, 1, 1, IDLE, IDLE);
    }

    private static void aRunningJobKeepsTheCoreFromAGreaterIdWithItsDeadline() {
        Due.sentence(PLACE, "of equal deadlines the one of the task with the smaller id");
        Made.runs("the greater id comes later", Made.with(1, 6, 10, 10, 1, 5, 5), 0,
            1, 0, 0, 0, 0, 0, 0, 1, IDLE, IDLE);
    }

    // The task (4, 8, 10) is split into (2, 2, 10) on core 0 and (2, 6, 10) on core 1, where another is due at 6 too.
    private static void aPartOfASplitTaskIsHeldByItsIdToo() {
        Due.sentence(PLACE, "of equal deadlines the one of the task with the smaller id");
        SemiPartEdf greater = Made.with(2, 8, 10, 10, 4, 6, 10, 3, 10, 10, 4, 8, 10);
        Made.runs("first part under id 3", greater, 0, 3, 3, 0, 0, 0, 0, 0, 0, 0, 0);
        Made.runs("second part under id 3", greater, 1, 1, 1, 1, 1, 3, 3, 2, 2, 2, IDLE);
        SemiPartEdf smaller = Made.with(2, 1, 60, 60, 8, 10, 10, 4, 6, 10, 3, 10, 10);
        Due.is("task 0 goes", smaller.remove(0), 3);
        Due.is("task 0 comes again, split", smaller.admit(4, 8, 10), 0);
        Made.runs("first part under id 0", smaller, 0, 0, 0, 1, 1, 1, 1, 1, 1, 1, 1);
        Made.runs("second part under id 0", smaller, 1, 0, 0, 2, 2, 2, 2, 3, 3, 3, IDLE);
    }

    private static void theCoreIdlesIfThereIsNoJob() {
        Due.sentence(PLACE, "If there is none the core idles.");
        SemiPartEdf x = Made.with(3, 60, 60, 60, 1, 1, 60);
        Made.runs("never", x, 0, 0);
        Made.runs("from slot 1 on", x, 2, IDLE);
        Due.is("slot 0", x.running(1, 0), 1);
        for (int slot = 1; slot < 60; slot++) {
            Due.is("slot " + slot, x.running(1, slot), IDLE);
        }
    }

    // A job that is not finished when the next is released has missed, as d <= p, so no admitted task
    // shows more of this sentence than a job that ends in the last slot before the next one.
    private static void theNextJobIsReleasedBehindOneThatEndsInTheLastSlot() {
        Due.sentence(PLACE, "is released whether or not the one before it is finished");
        Made.runs("two halves", Made.with(1, 1, 2, 2, 1, 2, 2), 0, 0, 1);
        for (int p : Made.PERIODS) {
            Made.runs("all of period " + p, Made.with(1, p, p, p), 0, 0);
            SemiPartEdf x = Made.with(1, p - 1, p, p, 1, p, p);
            Due.is("ends in slot p - 1, period " + p, x.running(0, p - 1), 1);
            Due.is("ends in slot 59, period " + p, x.running(0, 59), 1);
            Due.is("the first goes on in slot p, period " + p, x.running(0, p % 60), 0);
        }
    }

    private static void aMissAtDeadline60Counts() {
        Due.sentence(PLACE, "whose deadline r + d is at most 60");
        Due.is("one slot of 61", Made.with(1, 60, 60, 60).admit(1, 60, 60), SemiPartEdf.NO_CORE);
        Due.is("the last slot of 60", Made.with(1, 59, 60, 60).admit(1, 60, 60), 1);
        Due.is("31 slots where 30 are left", Made.with(1, 1, 2, 2).admit(31, 60, 60), SemiPartEdf.NO_CORE);
        Due.is("30 slots where 30 are left", Made.with(1, 1, 2, 2).admit(30, 60, 60), 1);
        Due.is("30 slots where 29 are left", Made.with(1, 31, 60, 60).admit(1, 2, 2), SemiPartEdf.NO_CORE);
        Due.is("the last job of three", Made.with(1, 1, 60, 60).admit(20, 20, 20), SemiPartEdf.NO_CORE);
        SemiPartEdf x = Made.with(1, 30, 60, 60, 15, 30, 30);
        Due.is("nothing left for deadline 60", x.admit(1, 60, 60), SemiPartEdf.NO_CORE);
    }

    private static void aMissAtTheFirstDeadlineCounts() {
        Due.sentence(PLACE, "has not had c slots in the slots before r + d");
        for (int p : Made.PERIODS) {
            SemiPartEdf x = Made.with(1, 1, 1, 60);
            Due.is("slot 0 is taken, period " + p, x.admit(1, 1, p), SemiPartEdf.NO_CORE);
            Due.is("slot 1 is not, period " + p, x.admit(1, 2, p), 1);
        }
    }

    // Of the jobs due by slot 28 the first three tasks need 26 slots, although the load leaves six of 60.
    private static void aMissBetweenThemCounts() {
        Due.sentence(PLACE, "has not had c slots in the slots before r + d");
        SemiPartEdf x = Made.with(1, 2, 4, 6, 4, 8, 10, 2, 10, 12);
        Due.is("load", x.load(0), 54);
        Due.is("misses at 28", x.admit(3, 28, 30), SemiPartEdf.NO_CORE);
        Due.is("just holds at 28", x.admit(2, 28, 30), 3);
        // By slot 31 three jobs of six slots and two of seven are due, which is one too many.
        SemiPartEdf third = Made.with(1, 6, 7, 12);
        Due.is("misses at 31", third.admit(7, 14, 15), SemiPartEdf.NO_CORE);
        Due.is("just holds at 31", third.admit(6, 14, 15), 1);
        // The load is 60, but all 60 slots are due by slot 59.
        SemiPartEdf last = Made.with(1, 5, 14, 15);
        Due.is("misses at 59", last.admit(8, 11, 12), SemiPartEdf.NO_CORE);
        Due.is("just holds at 59", last.admit(7, 11, 12), 1);
        Due.is("just holds at 60", Made.with(1, 5, 14, 15).admit(8, 12, 12), 1);
    }

    private static void allPartsRepeatAfter60Slots() {
        Due.sentence(PLACE, "All parts repeat after 60 slots, so a core that doesn't miss never will.");
        SemiPartEdf x = Made.with(1, 1, 2, 2, 5, 20, 20, 15, 60, 60);
        Due.is("load", x.load(0), 60);
        int[] slots = new int[3];
        for (int slot = 59; slot >= 0; slot--) {
            int id = x.running(0, slot);
            Due.holds("no slot of a full core idles: " + slot, id >= 0 && id < 3);
            slots[id < 0 || id > 2 ? 0 : id]++;
        }
        Due.is("slots of task 0", slots[0], 30);
        Due.is("slots of task 1", slots[1], 15);
        Due.is("slots of task 2", slots[2], 15);
        Due.is("nothing is left over for slot 0", x.running(0, 0), 0);
        Due.is("and task 2 ends in slot 59", x.response(0, 2), 60);
    }

    // Many fixed tasks come and go; no part may then need more slots than its own deadline.
    private static void noCoreMissesWithAdmittedTasks() {
        Due.sentence(PLACE, "A core never misses with the tasks that have been admitted.");
        for (int run = 0; run < 200; run++) {
            SemiPartEdf x = new SemiPartEdf(1 + run % 3);
            int[] deadline = new int[12];
            for (int call = 0; call < 60; call++) {
                if (from(0, 3) == 0) {
                    x.remove(from(0, 11));
                    continue;
                }
                int p = Made.PERIODS[from(1, 10)];
                int c = from(1, p / 2 + 1);
                int d = from(c, p);
                int id = x.admit(c, d, p);
                if (id >= 0) {
                    deadline[id] = d;
                }
            }
            for (int id = 0; id < 12; id++) {
                inTime(x, id, deadline[id]);
            }
            for (int core = 0; core < 1 + run % 3; core++) {
                Due.holds("load of a core is at most 60", x.load(core) >= 0 && x.load(core) <= 60);
            }
        }
        Due.holds("some of the tasks are split: " + splitsInTime, splitsInTime >= 10);
    }

    private static void inTime(SemiPartEdf x, int id, int deadline) {
        int core = x.core(id);
        int second = x.secondCore(id);
        if (core < 0) {
            return;
        }
        int first = x.firstCost(id);
        int longest = x.response(core, id);
        if (second < 0) {
            Due.holds("whole task in time: " + longest + " of " + deadline, longest >= first && longest <= deadline);
            return;
        }
        int rest = x.response(second, id);
        splitsInTime++;
        Due.is("first part in time", longest, first);
        Due.holds("second part in time: " + rest + " of " + (deadline - first), rest >= 1 && rest <= deadline - first);
    }

    private static int from(int low, int high) {
        state = state * 6364136223846793005L + 1442695040888963407L;
        return low + (int) ((state >>> 33) % (high - low + 1));
    }

    private static void theAskingCallsChangeNothing() {
        Due.sentence(PLACE, "The calls below change nothing.");
        for (int kind = 0; kind < 7; kind++) {
            String what = "asking call " + kind + " on ";
            Due.same(what + "a new object", after(new SemiPartEdf(3), kind), Made.picture(new SemiPartEdf(3)));
            Due.same(what + "a split task", after(Made.split(), kind), Made.picture(Made.split()));
            Due.same(what + "twelve tasks", after(Made.twelve(2), kind), Made.picture(Made.twelve(2)));
        }
    }

    // Good inputs and wrong ones of one kind of call, and the picture afterwards.
    private static String after(SemiPartEdf x, int kind) {
        for (int id = -1; id <= 13; id++) {
            switch (kind) {
                case 0 -> x.core(id);
                case 1 -> x.secondCore(id);
                case 2 -> x.firstCost(id);
                case 3 -> x.load(id);
                default -> { }
            }
            for (int core = -1; core <= 3; core++) {
                switch (kind) {
                    case 4 -> x.running(core, id * 5);
                    case 5 -> x.response(core, id);
                    case 6 -> x.spare(core, id < 0 || id >= 11 ? id : Made.PERIODS[id]);
                    default -> { }
                }
            }
        }
        return Made.picture(x);
    }

    // Two objects get the same tasks, and only one of them is asked in between.
    private static void theAskingCallsLeaveLaterAnswersAsTheyAre() {
        Due.sentence(PLACE, "The calls below change nothing.");
        for (int run = 0; run < 90; run++) {
            SemiPartEdf asked = new SemiPartEdf(1 + run % 3);
            SemiPartEdf quiet = new SemiPartEdf(1 + run % 3);
            for (int change = 0; change < 60; change++) {
                askAll(asked);
                String what = "run " + run + ", change " + change + ": ";
                int id = from(0, 11);
                if (from(0, 2) == 0) {
                    Due.is(what + "remove(" + id + ")", asked.remove(id), quiet.remove(id));
                    continue;
                }
                int p = Made.PERIODS[from(1, 10)];
                int c = from(1, p / 2);
                int d = from(c, p);
                String call = what + "admit(" + c + ", " + d + ", " + p + ")";
                Due.is(call, asked.admit(c, d, p), quiet.admit(c, d, p));
            }
        }
    }

    private static void askAll(SemiPartEdf x) {
        int id = from(0, 11);
        int core = from(0, 2);
        x.core(id);
        x.secondCore(id);
        x.firstCost(id);
        x.load(core);
        x.running(core, from(0, 59));
        x.response(core, id);
        x.spare(core, Made.PERIODS[from(0, 10)]);
    }
}
