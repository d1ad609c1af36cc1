/** Promises 20 to 22: mend, soft, run. */
public final class PlansTest {
    private static final Dues dues = new Dues("PlansTest");
    private static final int USE = 1, SET = 2, SHARE = 3, TAKE = 4, PLAN = 5, MOVE = 6, MAYBE = 7, GO = 8, STOP = 9;
    private static final int NONE = -1, BAD = -2;

    public static void main(String[] args) {
        mend();
        soft();
        choices();
        faults();
        accesses();
        planned();
        wrongNumbers();
        dues.end();
    }

    private static void mends(String call, LoanPoints x, int point, int errors) {
        dues.due(call + ": which", x.mend(0), point);
        dues.due(call + ": how many", x.mend(1), errors);
    }

    private static void mend() {
        mends("none", new LoanPoints(), NONE, NONE);
        dues.due("mend 2 of none", new LoanPoints().mend(2), BAD);
        dues.due("mend -1", new LoanPoints().mend(-1), BAD);
        mends("accepted", Dues.program(TAKE, 1, 0, 0, USE, 0, 13, 0), 1, 0);
        mends("a skip", Dues.program(0, 0, 0, 0), 0, 0);
        LoanPoints x = Dues.program(GO, 0, 0, 2, USE, 0, 13, 0, USE, 0, 13, 0);
        mends("a jump", x, 2, 0);
        dues.due("errors are as they were", x.errors(), 1);
        dues.due("statements are as they were", x.code(2, 0), USE);
        x.alter(2, 0, 0, 0, 0);
        mends("behind a change", x, 1, 0);
        mends("of like ones the least", Dues.program(USE, 0, 13, 0, USE, 0, 23, 0), 0, 1);
        mends("more errors by each", Dues.program(STOP, 0, 0, 0, USE, 0, 13, 0), 1, 0);
        mends("one and no other way", Dues.program(STOP, 0, 0, 0), 0, 0);
    }

    private static void soft() {
        dues.due("none", new LoanPoints().soft(), 0);
        dues.due("read", Dues.program(TAKE, 1, 0, 0, USE, 0, 13, 0).soft(), 1);
        dues.due("written", Dues.program(TAKE, 1, 0, 0, SET, 0, 13, 0).soft(), 0);
        dues.due("planned, read", Dues.program(PLAN, 1, 0, 0, USE, 0, 13, 0).soft(), 1);
        dues.due("planned, written", Dues.program(PLAN, 1, 0, 0, SET, 0, 13, 0).soft(), 0);
        dues.due("shared", Dues.program(SHARE, 1, 0, 0, USE, 0, 13, 0).soft(), 0);
        dues.due("taken again", Dues.program(TAKE, 1, 0, 0, TAKE, 2, 13, 0, USE, 0, 23, 0).soft(), Dues.bits(1));
        dues.due("fewer for more", Dues.program(TAKE, 1, 0, 0, USE, 0, 0, 0, SET, 0, 13, 0).soft(), 1);
        dues.due("not reached", Dues.program(STOP, 0, 0, 0, TAKE, 1, 0, 0).soft(), Dues.bits(1));
    }

    private static void runs(String call, LoanPoints x, int choices, int steps, int point, int why, int done) {
        dues.due(call + ": point", x.run(choices, steps, 0), point);
        dues.due(call + ": why", x.run(choices, steps, 1), why);
        dues.due(call + ": done", x.run(choices, steps, 2), done);
    }

    private static void choices() {
        LoanPoints x = Dues.program(MAYBE, 0, 0, 0, USE, 0, 13, 0);
        runs("no choice", x, 0, 300, 1, 1, 2);
        runs("one choice", x, 1, 300, 1, 1, 3);
        runs("bit 1 alone", x, 2, 300, 1, 1, 2);
        runs("thirty", x, 0x3fffffff, 300, 1, 1, 32);
        runs("all, and round again", x, Integer.MAX_VALUE, 300, NONE, NONE, 300);
        runs("bit 31 is none", x, Integer.MIN_VALUE, 300, 1, 1, 2);
        runs("below 0", x, -1, 77, NONE, NONE, 77);
        runs("too few steps", x, 0, 1, NONE, NONE, 1);
        runs("no steps", x, 0, 0, NONE, NONE, 0);
        runs("no statements", new LoanPoints(), 0, 300, NONE, NONE, 0);
        runs("a jump behind all", Dues.program(GO, 0, 0, 5), 0, 300, NONE, NONE, 1);
        runs("a stop", Dues.program(STOP, 0, 0, 0, USE, 0, 13, 0), 0, 300, NONE, NONE, 1);
        x.alter(1, 0, 0, 0, 0);
        runs("behind a change", x, 0, 300, NONE, NONE, 2);
        x.back();
        runs("behind another", x, 0, 300, NONE, NONE, 1);
    }

    private static void faults() {
        runs("a value", Dues.program(SET, 0, 0, 0, SET, 0, 14, 0), 0, 60, 1, 1, 2);
        runs("stale", Dues.program(TAKE, 1, 0, 0, USE, 0, 0, 0, USE, 0, 13, 0), 0, 60, 2, 2, 3);
        runs("from a stale one", Dues.program(TAKE, 1, 0, 0, TAKE, 2, 14, 0, USE, 0, 2, 0, USE, 0, 23, 0), 0, 60, 3, 2, 4);
        runs("set of what is shared", Dues.program(SHARE, 1, 0, 0, SET, 0, 13, 0), 0, 60, 1, 3, 2);
        runs("take of what is shared", Dues.program(SHARE, 1, 0, 0, SHARE, 2, 13, 0, TAKE, 3, 23, 0), 0, 60, 2, 3, 3);
        runs("plan of what is shared", Dues.program(SHARE, 1, 0, 0, PLAN, 2, 13, 0), 0, 60, 1, 3, 2);
        runs("stale and shared", Dues.program(SHARE, 1, 0, 0, SET, 0, 0, 0, SET, 0, 13, 0), 0, 60, 2, 2, 3);
        runs("lends a reference", Dues.program(SHARE, 1, 0, 0, SHARE, 2, 11, 0), 0, 60, 1, 4, 2);
        runs("a reference is used and moved", Dues.program(SHARE, 1, 0, 0, USE, 0, 10, 0, MOVE, 2, 13, 0, USE, 0, 23, 0),
            0, 60, NONE, NONE, 4);
        runs("what is moved from is a value", Dues.program(TAKE, 1, 0, 0, MOVE, 2, 10, 0, USE, 0, 23, 0, USE, 0, 13, 0), 0, 60, 3, 1, 4);
        runs("moved to itself", Dues.program(TAKE, 1, 0, 0, MOVE, 1, 10, 0, USE, 0, 13, 0), 0, 60, NONE, NONE, 3);
        runs("a part is set", Dues.program(TAKE, 1, 0, 0, SET, 0, 11, 0, USE, 0, 13, 0), 0, 60, 2, 1, 3);
    }

    private static void accesses() {
        runs("by the one it is from, reading a taken one",
            Dues.program(TAKE, 1, 0, 0, TAKE, 2, 13, 0, USE, 0, 13, 0, USE, 0, 23, 0), 0, 60, 3, 2, 4);
        runs("by the one it is from, reading a shared one",
            Dues.program(TAKE, 1, 0, 0, SHARE, 2, 13, 0, USE, 0, 13, 0, USE, 0, 23, 0), 0, 60, NONE, NONE, 4);
        runs("by the one it is from, writing",
            Dues.program(TAKE, 1, 0, 0, SHARE, 2, 13, 0, SET, 0, 13, 0, USE, 0, 23, 0), 0, 60, 3, 2, 4);
        runs("those it is from are spared",
            Dues.program(TAKE, 1, 0, 0, TAKE, 2, 13, 0, TAKE, 3, 23, 0, SET, 0, 33, 0, SET, 0, 23, 0, SET, 0, 13, 0), 0, 60, NONE, NONE, 6);
        runs("a part of a part is that part",
            Dues.program(TAKE, 1, 1, 0, TAKE, 2, 15, 0, USE, 0, 2, 0, USE, 0, 23, 0), 0, 60, NONE, NONE, 4);
        runs("and meets it",
            Dues.program(TAKE, 1, 1, 0, TAKE, 2, 15, 0, USE, 0, 1, 0, USE, 0, 23, 0), 0, 60, 3, 2, 4);
        runs("a part of the whole, the other part",
            Dues.program(TAKE, 1, 0, 0, SHARE, 2, 14, 0, SET, 0, 15, 0, USE, 0, 23, 0), 0, 60, NONE, NONE, 4);
        runs("a part of the whole, the same part",
            Dues.program(TAKE, 1, 0, 0, SHARE, 2, 14, 0, SET, 0, 14, 0, USE, 0, 23, 0), 0, 60, 3, 2, 4);
        runs("what x was is written",
            Dues.program(SHARE, 1, 0, 0, SHARE, 0, 30, 0, USE, 0, 13, 0), 0, 60, 2, 2, 3);
        runs("what is moved from is written",
            Dues.program(SHARE, 1, 0, 0, MOVE, 3, 0, 0, USE, 0, 13, 0), 0, 60, 2, 2, 3);
        runs("what is moved to is written",
            Dues.program(SHARE, 1, 2, 0, MOVE, 0, 30, 0, USE, 0, 13, 0), 0, 60, 2, 2, 3);
        runs("a reference to itself",
            Dues.program(SHARE, 1, 10, 0, USE, 0, 13, 0), 0, 60, NONE, NONE, 2);
        runs("an access to the reference itself leaves what it refers to",
            Dues.program(TAKE, 1, 0, 0, TAKE, 2, 13, 0, SET, 0, 10, 0, SET, 0, 23, 0), 0, 60, NONE, NONE, 4);
        runs("made anew by each",
            Dues.program(TAKE, 1, 0, 0, MAYBE, 0, 0, 0, USE, 0, 13, 0), Integer.MAX_VALUE - 1, 60, NONE, NONE, 3);
    }

    private static void planned() {
        runs("not active, read",
            Dues.program(PLAN, 1, 0, 0, USE, 0, 0, 0, USE, 0, 13, 0), 0, 60, NONE, NONE, 3);
        runs("active, read",
            Dues.program(PLAN, 1, 0, 0, USE, 0, 13, 0, USE, 0, 0, 0, USE, 0, 13, 0), 0, 60, 3, 2, 4);
        runs("becoming active writes",
            Dues.program(PLAN, 1, 0, 0, SHARE, 2, 0, 0, USE, 0, 13, 0, USE, 0, 23, 0), 0, 60, 3, 2, 4);
        runs("being active does not",
            Dues.program(PLAN, 1, 0, 0, USE, 0, 13, 0, SHARE, 2, 13, 0, USE, 0, 13, 0, USE, 0, 23, 0), 0, 60, NONE, NONE, 5);
        runs("becoming active writes all of its spot",
            Dues.program(PLAN, 1, 0, 0, SHARE, 2, 2, 0, USE, 0, 14, 0, USE, 0, 23, 0), 0, 60, 3, 2, 4);
        runs("a plan through is a take",
            Dues.program(TAKE, 1, 0, 0, PLAN, 2, 13, 0, USE, 0, 13, 0, USE, 0, 23, 0), 0, 60, 3, 2, 4);
        int[] loop = {SHARE, 2, 30, 0, PLAN, 1, 0, 0, MAYBE, 0, 0, 5, MOVE, 2, 10, 0, GO, 0, 0, 1, USE, 0, 13, 0, USE, 0, 23, 0};
        runs("two of one plan, the newer first", Dues.program(loop), 2, 60, 6, 2, 9);
        loop[22] = 23;
        runs("two of one plan, the older alone", Dues.program(loop), 2, 60, NONE, NONE, 9);
    }

    private static void wrongNumbers() {
        LoanPoints x = Dues.program(USE, 0, 0, 0);
        dues.due("steps -1", x.run(0, -1, 0), BAD);
        dues.due("steps 301", x.run(0, 301, 0), BAD);
        dues.due("steps 300", x.run(0, 300, 0), NONE);
        dues.due("what -1", x.run(0, 1, -1), BAD);
        dues.due("what 3", x.run(0, 1, 3), BAD);
        dues.due("all wrong", x.run(Integer.MIN_VALUE, Integer.MIN_VALUE, Integer.MIN_VALUE), BAD);
    }
}
