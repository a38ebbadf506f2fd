/** Promise 2: admit, a task that is split over two cores. */
public final class Promise2SplitTest {
    private static final String PLACE = "Promise 2";
    // What a core is filled with, so that it takes both parts of (5, 10, 10), the second only, or none.
    private static final int[][] FILLS = {{6, 10, 10}, {3, 3, 5}, {10, 10, 10}};
    private static final int BOTH = 0;
    private static final int NONE = 2;

    public static void main(String[] args) {
        xMayBeAsGreatAsCMinus1();
        xMayBeAsSmallAs1();
        xMayLieBetween();
        aTaskOfOneSlotIsNeverSplit();
        theFirstPartIsDueAtItsCost();
        theSecondPartIsDueXSlotsEarlier();
        theOtherCoreIsAnotherOne();
        oneCoreNeverSplits();
        theSmallestFirstCoreAndThenTheSmallestSecond();
        aFirstCoreWithoutASecondIsPassedOver();
        theGreatestXComesBeforeTheSmallestCore();
        aTaskWithoutSlackIsSplitToo();
        theSecondPartIsReleasedInSlot0();
        manyTasksMayBeSplit();
        Due.end();
    }

    private static void split(String what, SemiPartEdf x, int id, int first, int second, int cost) {
        Due.is(what + ", core", x.core(id), first);
        Due.is(what + ", second core", x.secondCore(id), second);
        Due.is(what + ", first cost", x.firstCost(id), cost);
    }

    // Core 0 keeps half of its slots and core 1 a single one, so all but one slot of the task come first.
    private static void xMayBeAsGreatAsCMinus1() {
        Due.sentence(PLACE, "the greatest x from c - 1 down to 1 is looked for");
        for (int p : Made.PERIODS) {
            int half = p - p / 2;
            if (p > 3) {
                SemiPartEdf x = Made.with(2, p / 2, p, p, p - 1, p, p);
                Due.is("one slot too many of " + p, x.admit(half + 2, p, p), SemiPartEdf.NO_CORE);
                Due.is("c - 1 slots of " + p, x.admit(half + 1, p, p), 2);
                split("c - 1 slots of " + p, x, 2, 0, 1, half);
            }
        }
        SemiPartEdf greatest = Made.with(2, 60, 60, 60, 59, 60, 60);
        greatest.remove(0);
        Due.is("core 0 keeps 59 slots", greatest.admit(1, 60, 60), 0);
        Due.is("59 slots and one", greatest.admit(60, 60, 60), 2);
        split("59 slots and one", greatest, 2, 0, 1, 59);
    }

    // Core 0 has one slot left, and core 1 the slots 3, 4, 8 and 9: too few before slot 8 for all three.
    private static void xMayBeAsSmallAs1() {
        Due.sentence(PLACE, "the greatest x from c - 1 down to 1 is looked for");
        SemiPartEdf x = Made.with(2, 9, 10, 10, 3, 3, 5, 3, 8, 10);
        split("one slot and two", x, 2, 0, 1, 1);
        SemiPartEdf two = Made.with(2, 4, 5, 5, 4, 5, 5, 2, 5, 5);
        split("one slot and one", two, 2, 0, 1, 1);
        // The shortest period: each core keeps one slot of two.
        SemiPartEdf least = Made.with(2, 1, 2, 2, 1, 2, 2, 1, 2, 2);
        least.remove(1);
        Due.is("both slots of two", least.admit(2, 2, 2), 1);
        split("both slots of two", least, 1, 0, 1, 1);
        Due.is("no slot and two", Made.with(2, 5, 5, 5, 4, 5, 5).admit(2, 5, 5), SemiPartEdf.NO_CORE);
    }

    private static void xMayLieBetween() {
        Due.sentence(PLACE, "the greatest x from c - 1 down to 1 is looked for");
        // Core 0 keeps four slots of ten and core 1 three; seven slots need them all.
        SemiPartEdf x = Made.with(2, 6, 10, 10, 7, 10, 10, 7, 10, 10);
        split("four slots and three", x, 2, 0, 1, 4);
        SemiPartEdf more = Made.with(2, 6, 10, 10, 7, 10, 10);
        Due.is("eight slots are one too many", more.admit(8, 10, 10), SemiPartEdf.NO_CORE);
    }

    private static void aTaskOfOneSlotIsNeverSplit() {
        Due.sentence(PLACE, "NO_CORE if there is no such x");
        SemiPartEdf x = Made.with(3, 1, 1, 2, 1, 1, 2, 1, 1, 2);
        Due.is("slot 0 is taken everywhere", x.admit(1, 1, 60), SemiPartEdf.NO_CORE);
        Due.is("slot 1 is not", x.admit(1, 2, 60), 3);
        split("slot 1 is not", x, 3, 0, SemiPartEdf.NO_CORE, 1);
    }

    private static void theFirstPartIsDueAtItsCost() {
        Due.sentence(PLACE, "some core i doesn't miss with the part (x, x, p) added");
        // Every other slot is free, but slot 0 is not.
        SemiPartEdf x = Made.with(2, 1, 1, 2, 1, 1, 2);
        Due.is("no first part starts in slot 0", x.admit(3, 4, 4), SemiPartEdf.NO_CORE);
        Due.is("nor one of a single slot", x.admit(2, 3, 4), SemiPartEdf.NO_CORE);
        // Its deadline is the earliest there can be, so it runs ahead of task 0.
        SemiPartEdf y = Made.with(2, 6, 10, 10, 7, 10, 10, 7, 10, 10);
        Made.runs("the first part runs at once", y, 0, 2, 2, 2, 2, 0, 0, 0, 0, 0, 0);
        Due.is("response of the first part", y.response(0, 2), 4);
    }

    // Core 1 keeps four slots of twelve, none before slot 6, so a second part of one slot is due at 7 or later.
    private static void theSecondPartIsDueXSlotsEarlier() {
        Due.sentence(PLACE, "some other core j doesn't miss with the part (c - x, d - x, p) added");
        SemiPartEdf x = Made.with(2, 12, 12, 12, 6, 6, 12, 2, 12, 12);
        x.remove(0);
        Due.is("core 0 keeps four slots", x.admit(8, 12, 12), 0);
        Due.is("due at 10 - 4", x.admit(5, 10, 12), SemiPartEdf.NO_CORE);
        Due.is("due at 11 - 4", x.admit(5, 11, 12), 3);
        split("due at 11 - 4", x, 3, 0, 1, 4);
        Due.is("response of the second part", x.response(1, 3), 7);
        // Core 1 has no slot free before slot 6: it takes (1, 9, 10) and (1, 10, 10), but neither four slots earlier.
        Due.is("due at 9 - 4", Made.with(2, 6, 10, 10, 6, 6, 10).admit(5, 9, 10), SemiPartEdf.NO_CORE);
        Due.is("due at 10 - 4", Made.with(2, 6, 10, 10, 6, 6, 10).admit(5, 10, 10), SemiPartEdf.NO_CORE);
        Due.is("due before the other", Made.with(2, 6, 10, 10, 6, 7, 10).admit(5, 10, 10), 2);
    }

    private static void theOtherCoreIsAnotherOne() {
        Due.sentence(PLACE, "some other core j");
        // Core 0 takes (3, 3, 5) and takes (1, 2, 5), but not both, and core 1 takes neither.
        Due.is("core 1 is full", Made.with(2, 2, 5, 5, 5, 5, 5).admit(4, 5, 5), SemiPartEdf.NO_CORE);
        SemiPartEdf x = Made.with(3, 5, 5, 5, 2, 5, 5, 5, 5, 5);
        Due.is("all but core 1 are full", x.admit(4, 5, 5), SemiPartEdf.NO_CORE);
    }

    private static void oneCoreNeverSplits() {
        Due.sentence(PLACE, "some other core j");
        Due.is("one core", Made.with(1, 3, 5, 5).admit(3, 5, 5), SemiPartEdf.NO_CORE);
        Due.is("clamped to one core", Made.with(0, 3, 5, 5).admit(3, 5, 5), SemiPartEdf.NO_CORE);
    }

    // All 27 ways to fill three cores; no two fills fit on one core, so fill k stands on core k.
    private static void theSmallestFirstCoreAndThenTheSmallestSecond() {
        Due.sentence(PLACE, "Of that x the smallest such i is taken, and for it the smallest such j");
        for (int way = 0; way < 27; way++) {
            int[] fill = {way / 9, way / 3 % 3, way % 3};
            SemiPartEdf x = new SemiPartEdf(3);
            for (int core = 0; core < 3; core++) {
                int[] task = FILLS[fill[core]];
                Due.is("fill", x.admit(task[0], task[1], task[2]), core);
                Due.is("core of the fill", x.core(core), core);
            }
            expectPair(x, fill);
        }
    }

    private static void expectPair(SemiPartEdf x, int[] fill) {
        String what = "filled " + fill[0] + " " + fill[1] + " " + fill[2];
        int answer = x.admit(5, 10, 10);
        for (int first = 0; first < 3; first++) {
            for (int second = 0; second < 3; second++) {
                if (first != second && fill[first] == BOTH && fill[second] != NONE) {
                    Due.is(what, answer, 3);
                    split(what, x, 3, first, second, 4);
                    return;
                }
            }
        }
        Due.is(what, answer, SemiPartEdf.NO_CORE);
    }

    // Core 0 takes the first part (3, 3, 10), but then no other takes (4, 7, 10); core 1 and core 0 share it.
    private static void aFirstCoreWithoutASecondIsPassedOver() {
        Due.sentence(PLACE, "Of that x the smallest such i is taken");
        SemiPartEdf x = Made.with(2, 1, 4, 10, 5, 10, 10, 7, 10, 10);
        Due.is("seven slots", x.admit(7, 10, 10), 3);
        split("seven slots", x, 3, 1, 0, 3);
        SemiPartEdf three = Made.with(3, 1, 4, 10, 5, 10, 10, 7, 10, 10, 8, 10, 10);
        Due.is("seven slots of three cores", three.admit(7, 10, 10), 4);
        split("seven slots of three cores", three, 4, 1, 0, 3);
    }

    private static void theGreatestXComesBeforeTheSmallestCore() {
        Due.sentence(PLACE, "the greatest x from c - 1 down to 1 is looked for");
        // Core 0 keeps three slots of ten, core 1 three and core 2 four: only core 2 takes a first part of four.
        SemiPartEdf x = Made.with(3, 7, 10, 10, 7, 10, 10, 6, 10, 10);
        Due.is("five slots", x.admit(5, 10, 10), 3);
        split("five slots", x, 3, 2, 0, 4);
        SemiPartEdf even = Made.with(3, 6, 10, 10, 6, 10, 10, 6, 10, 10, 5, 10, 10, 5, 10, 10);
        split("the smallest cores", even, 3, 0, 1, 4);
        split("the greatest x that is left", even, 4, 2, 1, 4);
    }

    // With c = d both parts have to run at once.
    private static void aTaskWithoutSlackIsSplitToo() {
        Due.sentence(PLACE, "Only values with c - x <= d - x, which always holds.");
        SemiPartEdf x = Made.with(2, 6, 10, 10, 7, 10, 10, 5, 5, 10);
        split("c = d", x, 2, 0, 1, 4);
        Due.is("response of the first part", x.response(0, 2), 4);
        Due.is("response of the second part", x.response(1, 2), 1);
        SemiPartEdf late = Made.with(2, 6, 10, 10, 7, 10, 10, 7, 7, 10);
        split("c = d, all slots", late, 2, 0, 1, 4);
        Due.is("second part of all slots", late.response(1, 2), 3);
        Due.is("slot 0 is taken", Made.with(2, 6, 10, 10, 6, 6, 10).admit(5, 5, 10), SemiPartEdf.NO_CORE);
    }

    private static void theSecondPartIsReleasedInSlot0() {
        Due.sentence(PLACE, "The second part counts as released in the slots 0, p, 2p, .. like any other.");
        SemiPartEdf x = Made.split();
        Made.runs("first part", x, 0, 2, 2, 0, 0, 0);
        Made.runs("second part", x, 1, 2, 1, 1, 1, SemiPartEdf.NO_TASK);
        Due.is("response of the second part", x.response(1, 2), 1);
    }

    private static void manyTasksMayBeSplit() {
        Due.sentence(PLACE, "core i gets the first part, core j the second one");
        // Each core keeps two slots of six; two tasks of three slots need them all.
        SemiPartEdf x = Made.with(3, 4, 6, 6, 4, 6, 6, 4, 6, 6, 3, 6, 6, 3, 6, 6);
        split("task 3", x, 3, 0, 1, 2);
        split("task 4", x, 4, 2, 1, 2);
        for (int core = 0; core < 3; core++) {
            Due.is("load of core " + core, x.load(core), 60);
            Due.is("response of its whole task", x.response(core, core), 6);
        }
    }
}
