/** Promise 5: secondCore. */
public final class Promise5SecondCoreTest {
    private static final String PLACE = "Promise 5";

    public static void main(String[] args) {
        theCoreThatHasTheSecondPart();
        noCoreIfTheTaskIsWhole();
        noTask();
        Due.end();
    }

    private static void theCoreThatHasTheSecondPart() {
        Due.sentence(PLACE, "The core that has the second part");
        Due.is("second part on the greater core", Made.split().secondCore(2), 1);
        SemiPartEdf back = Made.with(2, 3, 3, 5, 6, 10, 10, 5, 10, 10);
        Due.is("second part on core 0", back.secondCore(2), 0);
        SemiPartEdf last = Made.with(3, 6, 10, 10, 10, 10, 10, 3, 3, 5, 5, 10, 10);
        Due.is("second part on the last core", last.secondCore(3), 2);
    }

    private static void noCoreIfTheTaskIsWhole() {
        Due.sentence(PLACE, "NO_CORE if the task is whole");
        SemiPartEdf x = Made.with(3, 60, 60, 60, 60, 60, 60, 1, 1, 60);
        for (int id = 0; id < 3; id++) {
            Due.is("secondCore(" + id + ")", x.secondCore(id), SemiPartEdf.NO_CORE);
        }
        SemiPartEdf twelve = Made.twelve(1);
        Due.is("secondCore(11)", twelve.secondCore(11), SemiPartEdf.NO_CORE);
        SemiPartEdf split = Made.split();
        Due.is("whole beside a split one", split.secondCore(0), SemiPartEdf.NO_CORE);
        split.remove(2);
        Due.is("the split one's id again", split.admit(2, 5, 5), 2);
        Due.is("is whole now", split.secondCore(2), SemiPartEdf.NO_CORE);
        split.remove(2);
        Due.is("and again", split.admit(3, 5, 5), 2);
        Due.is("is split now", split.secondCore(2), 1);
    }

    private static void noTask() {
        Due.sentence(PLACE, "; NO_TASK.");
        Made.knowsNoTask("secondCore", SemiPartEdf::secondCore);
    }
}
