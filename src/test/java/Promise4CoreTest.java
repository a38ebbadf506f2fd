/** Promise 4: core. */
public final class Promise4CoreTest {
    private static final String PLACE = "Promise 4";

    public static void main(String[] args) {
        theCoreThatHasTheWholeTask();
        orTheFirstPartOfASplitOne();
        noTask();
        Due.end();
    }

    private static void theCoreThatHasTheWholeTask() {
        Due.sentence(PLACE, "The core that has the whole task");
        SemiPartEdf x = Made.with(3, 60, 60, 60, 60, 60, 60, 5, 60, 60);
        for (int id = 0; id < 3; id++) {
            Due.is("core(" + id + ")", x.core(id), id);
        }
        for (int id = 3; id < 12; id++) {
            Due.is("task on the last core", x.admit(1, 60, 60), id);
            Due.is("core(" + id + ")", x.core(id), 2);
        }
        x.remove(0);
        Due.is("an id again, on another core", x.admit(1, 60, 60), 0);
        Due.is("core(0)", x.core(0), 0);
        SemiPartEdf moved = Made.with(2, 10, 60, 60, 50, 60, 60);
        moved.remove(0);
        Due.is("too much for core 0", moved.admit(11, 60, 60), 0);
        Due.is("its id stood on core 0 before", moved.core(0), 1);
    }

    private static void orTheFirstPartOfASplitOne() {
        Due.sentence(PLACE, "or the first part of a split one");
        Due.is("first part on the smaller core", Made.split().core(2), 0);
        SemiPartEdf back = Made.with(2, 3, 3, 5, 6, 10, 10, 5, 10, 10);
        Due.is("first part on the greater core", back.core(2), 1);
        SemiPartEdf last = Made.with(3, 3, 3, 5, 10, 10, 10, 6, 10, 10, 5, 10, 10);
        Due.is("first part on the last core", last.core(3), 2);
    }

    private static void noTask() {
        Due.sentence(PLACE, "; NO_TASK.");
        Made.knowsNoTask("core", SemiPartEdf::core);
    }
}
