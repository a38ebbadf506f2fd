/** Promise 7: load. */
public final class Promise7LoadTest {
    private static final String PLACE = "Promise 7";

    public static void main(String[] args) {
        anEmptyCoreNeeds0();
        aFullCoreNeeds60();
        eachPartNeedsItsCostInEachPeriod();
        thePartsOfACoreAreSummedUp();
        aSplitTaskCountsOnBothCores();
        noSuchCore();
        Due.end();
    }

    private static void anEmptyCoreNeeds0() {
        Due.sentence(PLACE, "The sum over the parts on a core");
        SemiPartEdf x = Made.with(3, 1, 60, 60);
        Due.is("load(1)", x.load(1), 0);
        Due.is("load(2)", x.load(2), 0);
        x.remove(0);
        Due.is("load(0) behind remove", x.load(0), 0);
    }

    private static void aFullCoreNeeds60() {
        Due.sentence(PLACE, "how many of 60 slots they need");
        for (int p : Made.PERIODS) {
            Due.is("all of period " + p, Made.with(1, p, p, p).load(0), 60);
            Due.is("in two tasks of period " + p, Made.with(1, 1, p, p, p - 1, p, p).load(0), 60);
        }
        Due.is("three cores", Made.with(3, 60, 60, 60, 30, 30, 30, 2, 2, 2).load(2), 60);
    }

    private static void eachPartNeedsItsCostInEachPeriod() {
        Due.sentence(PLACE, "cost * (60 / period)");
        for (int p : Made.PERIODS) {
            for (int c = 1; c <= p; c++) {
                Due.is("cost " + c + " of " + p, Made.with(1, c, c, p).load(0), c * (60 / p));
            }
        }
    }

    private static void thePartsOfACoreAreSummedUp() {
        Due.sentence(PLACE, "The sum over the parts on a core");
        SemiPartEdf x = Made.with(2, 2, 7, 12, 7, 50, 60, 1, 20, 20);
        Due.is("10 and 7 and 3", x.load(0), 20);
        x.remove(0);
        Due.is("7 and 3", x.load(0), 10);
        SemiPartEdf twelve = Made.twelve(2);
        Due.is("twelve tasks", twelve.load(0), 12);
        twelve.remove(11);
        Due.is("eleven tasks", twelve.load(0), 11);
        twelve.remove(0);
        Due.is("ten tasks", twelve.load(0), 10);
    }

    private static void aSplitTaskCountsOnBothCores() {
        Due.sentence(PLACE, "The sum over the parts on a core");
        SemiPartEdf x = Made.split();
        Due.is("36 and two of five", x.load(0), 60);
        Due.is("36 and one of five", x.load(1), 48);
        SemiPartEdf three = Made.with(3, 3, 3, 5, 10, 10, 10, 6, 10, 10, 5, 10, 10);
        Due.is("36 and one of ten", three.load(0), 42);
        Due.is("no part of it", three.load(1), 60);
        Due.is("36 and four of ten", three.load(2), 60);
    }

    private static void noSuchCore() {
        Due.sentence(PLACE, "No such core: BAD_CORE.");
        for (int cores = 1; cores <= 3; cores++) {
            SemiPartEdf x = Made.twelve(cores);
            for (int core : Made.noCores(cores)) {
                Due.is("load(" + core + ") of " + cores, x.load(core), SemiPartEdf.BAD_CORE);
            }
            for (int core = 0; core < cores; core++) {
                Due.is("load(" + core + ") of " + cores, x.load(core), core == 0 ? 12 : 0);
            }
        }
    }
}
