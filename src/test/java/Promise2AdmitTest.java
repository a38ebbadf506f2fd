/** Promise 2: admit, its refusals and its ids; Promise2WholeTest and Promise2SplitTest have the placing. */
public final class Promise2AdmitTest {
    private static final String PLACE = "Promise 2";

    public static void main(String[] args) {
        aPeriodOutside2To60IsBad();
        aPeriodThatDoesNotDivide60IsBad();
        everyOtherPeriodIsGood();
        aCostOutside1ToPIsBad();
        aDeadlineOutside1ToPIsBad();
        aCostAboveTheDeadlineIsBad();
        everyOtherCostAndDeadlineIsGood();
        twelveTasksAreFull();
        aSplitTaskIsOneOfTwelve();
        theTestsComeInTheirOrder();
        theTaskGetsTheSmallestFreeId();
        anIdIsTakenOnWhateverCore();
        aRefusedCallTakesNoId();
        aRefusedCallChangesNothing();
        noCoreChangesNothing();
        theNewPartIsTestedUnderItsId();
        Due.end();
    }

    private static void answers(int c, int d, int p, int want) {
        Due.is("admit(" + c + ", " + d + ", " + p + ")", new SemiPartEdf(1).admit(c, d, p), want);
    }

    private static void aPeriodOutside2To60IsBad() {
        Due.sentence(PLACE, "p not in 2 to 60 or not a divisor of 60: BAD_PERIOD");
        int[] bad = {Made.LEAST, Made.LEAST + 1, -120, -60, -30, -12, -5, -2, -1, 0, 1, 61, 62, 64, 90, 120, 180, 600,
            Made.MOST - 1, Made.MOST};
        for (int p : bad) {
            answers(1, 1, p, SemiPartEdf.BAD_PERIOD);
            answers(1, p, p, SemiPartEdf.BAD_PERIOD);
        }
    }

    private static void aPeriodThatDoesNotDivide60IsBad() {
        Due.sentence(PLACE, "p not in 2 to 60 or not a divisor of 60: BAD_PERIOD");
        for (int p = 2; p <= 60; p++) {
            if (60 % p != 0) {
                answers(1, 1, p, SemiPartEdf.BAD_PERIOD);
            }
        }
    }

    private static void everyOtherPeriodIsGood() {
        Due.sentence(PLACE, "p not in 2 to 60 or not a divisor of 60: BAD_PERIOD");
        for (int p : Made.PERIODS) {
            answers(1, 1, p, 0);
        }
    }

    private static void aCostOutside1ToPIsBad() {
        Due.sentence(PLACE, "c or d not in 1 to p, or c > d: BAD_COST");
        for (int p : Made.PERIODS) {
            for (int c : new int[] {Made.LEAST, -60, -1, 0, p + 1, p + 2, 61, 120, Made.MOST}) {
                answers(c, p, p, SemiPartEdf.BAD_COST);
            }
        }
    }

    private static void aDeadlineOutside1ToPIsBad() {
        Due.sentence(PLACE, "c or d not in 1 to p, or c > d: BAD_COST");
        for (int p : Made.PERIODS) {
            for (int d : new int[] {Made.LEAST, -60, -1, 0, p + 1, p + 2, 61, 120, Made.MOST}) {
                answers(1, d, p, SemiPartEdf.BAD_COST);
                // Equal to the deadline, so that only the range is wrong.
                answers(d, d, p, SemiPartEdf.BAD_COST);
            }
        }
    }

    private static void aCostAboveTheDeadlineIsBad() {
        Due.sentence(PLACE, "c or d not in 1 to p, or c > d: BAD_COST");
        for (int p : Made.PERIODS) {
            for (int d = 1; d < p; d++) {
                answers(d + 1, d, p, SemiPartEdf.BAD_COST);
                answers(p, d, p, SemiPartEdf.BAD_COST);
            }
        }
    }

    private static void everyOtherCostAndDeadlineIsGood() {
        Due.sentence(PLACE, "c or d not in 1 to p, or c > d: BAD_COST");
        for (int p : Made.PERIODS) {
            for (int d = 1; d <= p; d++) {
                for (int c = 1; c <= d; c++) {
                    answers(c, d, p, 0);
                }
            }
        }
    }

    private static void twelveTasksAreFull() {
        Due.sentence(PLACE, "there are twelve tasks: FULL");
        for (int cores = 1; cores <= 3; cores++) {
            SemiPartEdf x = Made.twelve(cores);
            Due.is("the thirteenth", x.admit(1, 60, 60), SemiPartEdf.FULL);
            Due.is("the thirteenth again", x.admit(1, 1, 2), SemiPartEdf.FULL);
            Due.is("eleven are left", x.remove(5), 11);
            Due.is("the twelfth", x.admit(1, 60, 60), 5);
            Due.is("full again", x.admit(1, 60, 60), SemiPartEdf.FULL);
        }
    }

    private static void aSplitTaskIsOneOfTwelve() {
        Due.sentence(PLACE, "there are twelve tasks: FULL");
        SemiPartEdf x = Made.split();
        for (int id = 3; id < 12; id++) {
            Due.is("task beside the split one", x.admit(1, 60, 60), id);
        }
        Due.is("the thirteenth", x.admit(1, 60, 60), SemiPartEdf.FULL);
    }

    private static void theTestsComeInTheirOrder() {
        Due.sentence(PLACE, "Tests in this order");
        SemiPartEdf x = new SemiPartEdf(1);
        Due.is("period before cost 0", x.admit(0, 0, 7), SemiPartEdf.BAD_PERIOD);
        Due.is("period before cost above deadline", x.admit(2, 1, 61), SemiPartEdf.BAD_PERIOD);
        Due.is("period 0 before cost", x.admit(0, 0, 0), SemiPartEdf.BAD_PERIOD);
        SemiPartEdf full = Made.twelve(1);
        Due.is("period before full", full.admit(1, 1, 7), SemiPartEdf.BAD_PERIOD);
        Due.is("period before cost before full", full.admit(0, 0, 1), SemiPartEdf.BAD_PERIOD);
        Due.is("cost before full", full.admit(0, 60, 60), SemiPartEdf.BAD_COST);
        Due.is("cost above deadline before full", full.admit(2, 1, 60), SemiPartEdf.BAD_COST);
        Due.is("deadline before full", full.admit(1, 61, 60), SemiPartEdf.BAD_COST);
        Due.is("full before no core", full.admit(60, 60, 60), SemiPartEdf.FULL);
        SemiPartEdf busy = Made.with(1, 60, 60, 60);
        Due.is("period before no core", busy.admit(60, 60, 59), SemiPartEdf.BAD_PERIOD);
        Due.is("cost before no core", busy.admit(61, 61, 60), SemiPartEdf.BAD_COST);
    }

    // Every set of ids that can be free beside the others: the ids come again from the smallest on.
    private static void theTaskGetsTheSmallestFreeId() {
        Due.sentence(PLACE, "The task gets the smallest id from 0 that no task has; the call answers the id.");
        for (int free = 0; free < 1 << 12; free++) {
            SemiPartEdf x = Made.twelve(1);
            for (int id = 0; id < 12; id++) {
                if ((free >> id & 1) == 1) {
                    x.remove(id);
                }
            }
            for (int id = 0; id < 12; id++) {
                if ((free >> id & 1) == 1) {
                    Due.is("the smallest free id", x.admit(2, 60, 60), id);
                    Due.is("the task has the id", x.firstCost(id), 2);
                }
            }
            Due.is("no id is free", x.admit(2, 60, 60), SemiPartEdf.FULL);
        }
    }

    private static void anIdIsTakenOnWhateverCore() {
        Due.sentence(PLACE, "The task gets the smallest id from 0 that no task has; the call answers the id.");
        SemiPartEdf x = Made.with(2, 60, 60, 60, 30, 60, 60, 1, 60, 60);
        x.remove(1);
        Due.is("the id between", x.admit(1, 60, 60), 1);
        Due.is("the id behind", x.admit(1, 60, 60), 3);
        SemiPartEdf split = Made.split();
        Due.is("the id behind a split task", split.admit(1, 5, 5), 3);
        split.remove(2);
        Due.is("the id of a split task", split.admit(3, 5, 60), 2);
    }

    private static void aRefusedCallTakesNoId() {
        Due.sentence(PLACE, "A refused call changes nothing.");
        SemiPartEdf x = Made.with(1, 30, 60, 60);
        Due.is("bad period", x.admit(1, 1, 7), SemiPartEdf.BAD_PERIOD);
        Due.is("bad cost", x.admit(0, 1, 60), SemiPartEdf.BAD_COST);
        Due.is("no core", x.admit(31, 60, 60), SemiPartEdf.NO_CORE);
        Due.is("the next id", x.admit(1, 60, 60), 1);
        Due.is("one is left", x.remove(0), 1);
    }

    private static void aRefusedCallChangesNothing() {
        Due.sentence(PLACE, "A refused call changes nothing.");
        leaves(Made.split(), 1, 1, 7, SemiPartEdf.BAD_PERIOD, Made.split());
        leaves(Made.split(), 0, 0, 0, SemiPartEdf.BAD_PERIOD, Made.split());
        leaves(Made.split(), 0, 5, 5, SemiPartEdf.BAD_COST, Made.split());
        leaves(Made.split(), 2, 1, 5, SemiPartEdf.BAD_COST, Made.split());
        leaves(Made.split(), 2, 5, 5, SemiPartEdf.NO_CORE, Made.split());
        leaves(Made.twelve(2), 1, 60, 60, SemiPartEdf.FULL, Made.twelve(2));
    }

    private static void noCoreChangesNothing() {
        Due.sentence(PLACE, "NO_CORE if there is no such x; nothing changes then.");
        leaves(Made.split(), 1, 1, 2, SemiPartEdf.NO_CORE, Made.split());
        leaves(Made.split(), 2, 5, 5, SemiPartEdf.NO_CORE, Made.split());
        leaves(Made.split(), 60, 60, 60, SemiPartEdf.NO_CORE, Made.split());
        leaves(Made.with(1, 1, 2, 2), 2, 2, 2, SemiPartEdf.NO_CORE, Made.with(1, 1, 2, 2));
    }

    // The picture's own admit shows that the next task is placed as if the refused one had not been asked for.
    private static void leaves(SemiPartEdf x, int c, int d, int p, int answer, SemiPartEdf untouched) {
        String what = "admit(" + c + ", " + d + ", " + p + ")";
        Due.is(what, x.admit(c, d, p), answer);
        Due.same(what, Made.picture(x), Made.picture(untouched));
    }

    // Which of equal deadlines runs first never makes a core miss, so the id shows only in who runs then.
    private static void theNewPartIsTestedUnderItsId() {
        Due.sentence(PLACE, "While a core is tested the new part has that id.");
        SemiPartEdf x = Made.with(1, 20, 60, 60, 20, 60, 60, 20, 60, 60);
        for (int id = 0; id < 3; id++) {
            Due.is("one goes", x.remove(id), 2);
            Due.is("and fills the core again", x.admit(20, 60, 60), id);
            for (int slot = 0; slot < 60; slot += 19) {
                Due.is("slot " + slot, x.running(0, slot), slot / 20);
            }
        }
    }
}
