/** The sentences of "What it is" that name a boundary: an object's 512 calls. */
public final class WhatItIsTest {
    private static final String PLACE = "What it is";

    public static void main(String[] args) {
        everyKindOfCallIsRightAsTheLastOf512();
        all512CallsMayBeAdmits();
        all512CallsMayChangeTasks();
        laterCallsStillEnd();
        Due.end();
    }

    // Three calls made the split object; 127 rounds of four calls make 511 of them.
    private static SemiPartEdf after511Calls() {
        SemiPartEdf x = Made.split();
        for (int round = 0; round < 127; round++) {
            Due.is("admit in round " + round, x.admit(1, 5, 5), 3);
            Due.is("running in round " + round, x.running(1, 4), 3);
            Due.is("spare in round " + round, x.spare(1, 60), 0);
            Due.is("remove in round " + round, x.remove(3), 3);
        }
        return x;
    }

    private static void everyKindOfCallIsRightAsTheLastOf512() {
        Due.sentence(PLACE, "An object is used for at most 512 calls after it has been made");
        Due.is("admit as call 512", after511Calls().admit(1, 5, 5), 3);
        Due.is("remove as call 512", after511Calls().remove(2), 2);
        Due.is("core as call 512", after511Calls().core(2), 0);
        Due.is("secondCore as call 512", after511Calls().secondCore(2), 1);
        Due.is("firstCost as call 512", after511Calls().firstCost(2), 2);
        Due.is("load as call 512", after511Calls().load(0), 60);
        Due.is("running as call 512", after511Calls().running(1, 0), 2);
        Due.is("response as call 512", after511Calls().response(0, 0), 5);
        Due.is("spare as call 512", after511Calls().spare(1, 60), 12);
    }

    private static void all512CallsMayBeAdmits() {
        Due.sentence(PLACE, "An object is used for at most 512 calls after it has been made");
        SemiPartEdf x = Made.twelve(3);
        for (int call = 13; call <= 512; call++) {
            Due.is("admit as call " + call, x.admit(1, 60, 60), SemiPartEdf.FULL);
        }
    }

    private static void all512CallsMayChangeTasks() {
        Due.sentence(PLACE, "An object is used for at most 512 calls after it has been made");
        SemiPartEdf x = Made.with(2, 3, 5, 5, 3, 5, 5);
        for (int call = 3; call <= 512; call += 2) {
            Due.is("admit, split, as call " + call, x.admit(3, 5, 5), 2);
            Due.is("remove as call " + (call + 1), x.remove(2), 2);
        }
    }

    // What these calls answer is free, so no answer is looked at; LANGUAGE.md still asks that every call ends.
    private static void laterCallsStillEnd() {
        Due.sentence(PLACE, "what later calls answer is free");
        SemiPartEdf x = after511Calls();
        for (int call = 512; call <= 3000; call++) {
            x.admit(1 + call % 3, 5, 5);
            x.spare(0, 60);
            x.running(0, call % 60);
            x.response(1, call % 12);
            x.remove(call % 12);
        }
        Due.holds("every call ends", true);
    }
}
