/** Promise 6: firstCost. */
public final class Promise6FirstCostTest {
    private static final String PLACE = "Promise 6";

    public static void main(String[] args) {
        theCostOfTheFirstPart();
        theWholeCostIfTheTaskIsWhole();
        noTask();
        Due.end();
    }

    private static void theCostOfTheFirstPart() {
        Due.sentence(PLACE, "The cost of the first part");
        Due.is("two of three slots", Made.split().firstCost(2), 2);
        SemiPartEdf one = Made.with(2, 9, 10, 10, 3, 3, 5, 3, 8, 10);
        Due.is("one of three slots", one.firstCost(2), 1);
        // The greater part is the second one, and stands on the smaller core.
        SemiPartEdf back = Made.with(2, 1, 4, 10, 5, 10, 10, 7, 10, 10, 7, 10, 10);
        Due.is("three of seven slots", back.firstCost(3), 3);
        SemiPartEdf most = Made.with(2, 60, 60, 60, 59, 60, 60);
        most.remove(0);
        most.admit(1, 60, 60);
        Due.is("59 of 60 slots are split off", most.admit(60, 60, 60), 2);
        Due.is("59 of 60 slots", most.firstCost(2), 59);
    }

    private static void theWholeCostIfTheTaskIsWhole() {
        Due.sentence(PLACE, "the whole cost if the task is whole");
        for (int p : Made.PERIODS) {
            for (int c = 1; c <= p; c++) {
                Due.is("cost " + c + " of " + p, Made.with(1, c, p, p).firstCost(0), c);
            }
        }
        SemiPartEdf x = Made.with(3, 60, 60, 60, 60, 60, 60, 7, 9, 60);
        Due.is("on the last core", x.firstCost(2), 7);
        x.remove(2);
        x.admit(8, 9, 60);
        Due.is("the id again", x.firstCost(2), 8);
    }

    private static void noTask() {
        Due.sentence(PLACE, "; NO_TASK.");
        Made.knowsNoTask("firstCost", SemiPartEdf::firstCost);
    }
}
