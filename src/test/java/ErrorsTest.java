/** Promises 17 to 19: errors, error, witness. */
public final class ErrorsTest {
    private static final Dues dues = new Dues("ErrorsTest");
    private static final int SKIP = 0, USE = 1, SET = 2, SHARE = 3, TAKE = 4, PLAN = 5, MOVE = 6, MAYBE = 7, GO = 8, STOP = 9;
    private static final int NONE = -1, BAD = -2, NOT = -3;

    public static void main(String[] args) {
        overlaps();
        kindsOfLoans();
        plans();
        otherErrors();
        order();
        witness();
        witnessEnds();
        witnessIsLong();
        wrongNumbers();
        dues.end();
    }

    private static void is(String call, LoanPoints x, int... errors) {
        dues.due(call + ": how many", x.errors(), errors.length / 3);
        for (int i = 0; i < errors.length; i++) {
            dues.due(call + ": error " + i / 3 + ", " + i % 3, x.error(i / 3, i % 3), errors[i]);
        }
        dues.due(call + ": behind all", x.error(errors.length / 3, 0), NONE);
    }

    /** A loan of path a of variable 0, then an access to path b of it: '1' where they clash. */
    private static void overlaps() {
        String[] any = {"111111", "110000", "101000", "100111", "100111", "100111"};
        String[] flat = {"111111", "110000", "101000", "000111", "000111", "000111"};
        for (int a = 0; a < 6; a++) {
            for (int b = 0; b < 6; b++) {
                String paths = a + ", " + b;
                int[] use = {TAKE, 1, a, 0, USE, 0, b, 0, USE, 0, 13, 0};
                dues.due("use " + paths, Dues.program(use).count(4), any[a].charAt(b) - '0');
                int[] set = {TAKE, 1, a, 0, SET, 0, b, 0, USE, 0, 13, 0};
                dues.due("set " + paths, Dues.program(set).count(4), flat[a].charAt(b) - '0');
                int[] take = {SHARE, 1, a, 0, TAKE, 2, b, 0, USE, 0, 13, 0};
                dues.due("take " + paths, Dues.program(take).count(4), any[a].charAt(b) - '0');
                int[] move = {SHARE, 1, a, 0, MOVE, 2, b, 0, USE, 0, 13, 0};
                dues.due("move " + paths, Dues.program(move).count(4), 1);
                int[] become = {SHARE, 1, a, 0, SHARE, 0, 30 + b, 0, USE, 0, 13, 0};
                dues.due("becomes " + paths, Dues.program(become).count(4), a < 3 ? 1 : 0);
                int[] other = {TAKE, 1, a, 0, SET, 0, 30 + b, 0, USE, 0, 13, 0};
                dues.due("another variable " + paths, Dues.program(other).count(4), 0);
            }
        }
    }

    private static void kindsOfLoans() {
        is("share, use", Dues.program(SHARE, 1, 0, 0, USE, 0, 0, 0, USE, 0, 13, 0));
        is("share, share", Dues.program(SHARE, 1, 0, 0, SHARE, 2, 0, 0, USE, 0, 13, 0));
        is("share, plan", Dues.program(SHARE, 1, 0, 0, PLAN, 2, 0, 0, USE, 0, 13, 0));
        is("share, take", Dues.program(SHARE, 1, 0, 0, TAKE, 2, 0, 0, USE, 0, 13, 0), 1, 0, 0);
        is("share, set", Dues.program(SHARE, 1, 0, 0, SET, 0, 0, 0, USE, 0, 13, 0), 1, 0, 0);
        is("take, share", Dues.program(TAKE, 1, 0, 0, SHARE, 2, 0, 0, USE, 0, 13, 0), 1, 0, 0);
        is("take, plan", Dues.program(TAKE, 1, 0, 0, PLAN, 2, 0, 0, USE, 0, 13, 0), 1, 0, 0);
        is("plan, use", Dues.program(PLAN, 1, 0, 0, USE, 0, 0, 0, USE, 0, 13, 0));
        is("plan, set", Dues.program(PLAN, 1, 0, 0, SET, 0, 0, 0, USE, 0, 13, 0), 1, 0, 0);
        is("active plan, use", Dues.program(PLAN, 1, 0, 0, USE, 0, 13, 0, USE, 0, 0, 0, USE, 0, 13, 0), 2, 0, 0);
        is("no longer in scope", Dues.program(TAKE, 1, 0, 0, USE, 0, 13, 0, SET, 0, 0, 0));
        is("a loan of itself", Dues.program(TAKE, 1, 10, 0, USE, 0, 13, 0), 1, 0, 0);
        is("a clash once", Dues.program(TAKE, 1, 0, 0, TAKE, 0, 0, 0, USE, 0, 13, 0), 1, 0, 0);
    }

    private static void plans() {
        is("waking clashes with another loan",
            Dues.program(PLAN, 1, 0, 0, SHARE, 2, 0, 0, USE, 0, 13, 0, USE, 0, 23, 0), 2, 0, 1);
        is("waking another part",
            Dues.program(PLAN, 1, 1, 0, SHARE, 2, 2, 0, USE, 0, 13, 0, USE, 0, 23, 0));
        is("a use of the reference itself wakes nothing",
            Dues.program(PLAN, 1, 0, 0, SHARE, 2, 0, 0, USE, 0, 10, 0, USE, 0, 23, 0));
        int[] loop = {SHARE, 2, 30, 0, PLAN, 1, 0, 0, MAYBE, 0, 0, 5, MOVE, 2, 10, 0, GO, 0, 0, 1, USE, 0, 13, 0, USE, 0, 23, 0};
        is("a plan against its own loan", Dues.program(loop), 1, 0, 1);
        loop[4] = TAKE;
        is("a take against its own loan", Dues.program(loop), 1, 0, 1);
        loop[4] = SHARE;
        is("a share against its own loan", Dues.program(loop));
    }

    private static void otherErrors() {
        is("no reference", Dues.program(USE, 0, 13, 0, SET, 0, 24, 0, SHARE, 1, 35, 0, MOVE, 4, 53, 0),
            0, 1, 1, 1, 1, 2, 2, 1, 3);
        is("not reached", Dues.program(STOP, 0, 0, 0, USE, 0, 13, 0));
        is("frozen", Dues.program(SHARE, 1, 0, 0, SET, 0, 13, 0, TAKE, 2, 13, 0, PLAN, 3, 14, 0, SHARE, 4, 13, 0, USE, 0, 13, 0),
            1, 2, 0, 2, 2, 0, 3, 2, 0);
        is("nested", Dues.program(TAKE, 1, 0, 0, SHARE, 2, 11, 0, SHARE, 3, 13, 0, TAKE, 4, 10, 0, PLAN, 5, 12, 0),
            1, 3, 1, 3, 3, 1, 4, 3, 1);
        is("a value may be lent", Dues.program(TAKE, 1, 0, 0, SET, 0, 10, 0, SHARE, 2, 10, 0));
    }

    private static void order() {
        is("clash, frozen", Dues.program(SHARE, 1, 0, 0, SHARE, 2, 13, 0, SET, 0, 13, 0, USE, 0, 23, 0), 2, 0, 1, 2, 2, 0);
        is("value, frozen", Dues.program(MAYBE, 0, 0, 2, SHARE, 1, 0, 0, SET, 0, 14, 0), 2, 1, 1, 2, 2, 1);
        LoanPoints x = Dues.program(MAYBE, 0, 0, 3, SHARE, 1, 0, 0, MAYBE, 0, 0, 4, SHARE, 1, 1, 0,
            MAYBE, 0, 0, 6, SHARE, 2, 13, 0, SET, 0, 14, 0, USE, 0, 23, 0);
        is("all of one point, by kinds and numbers", x,
            6, 0, 5, 6, 2, 1, 6, 2, 3, 7, 1, 2);
        dues.due("count 3", x.count(3), 4);
        dues.due("count 4", x.count(4), 1);
        dues.due("count 5", x.count(5), 1);
        dues.due("count 6", x.count(6), 2);
        dues.due("count 7", x.count(7), 0);
        is("clashes by numbers", Dues.program(SHARE, 1, 0, 0, SHARE, 2, 1, 0, SHARE, 3, 2, 0, SET, 0, 0, 0,
            USE, 0, 33, 0, USE, 0, 23, 0, USE, 0, 13, 0), 3, 0, 0, 3, 0, 1, 3, 0, 2);
    }

    private static void shows(String call, LoanPoints x, int i, int... points) {
        dues.due(call + ": how many", x.witness(i, NONE), points.length);
        for (int j = 0; j < points.length; j++) {
            dues.due(call + ": point " + j, x.witness(i, j), points[j]);
        }
        dues.due(call + ": behind all", x.witness(i, points.length), NONE);
        dues.due(call + ": last that may be asked", x.witness(i, 59), NONE);
    }

    private static void witness() {
        shows("the shortest", Dues.program(TAKE, 1, 0, 0, MAYBE, 0, 0, 4, SKIP, 0, 0, 0, GO, 0, 0, 5, SKIP, 0, 0, 0,
            USE, 0, 0, 0, MAYBE, 0, 0, 9, SKIP, 0, 0, 0, USE, 0, 13, 0, STOP, 0, 0, 0), 0, 0, 1, 4, 5, 6, 7, 8);
        shows("of like ones the least", Dues.program(TAKE, 1, 0, 0, MAYBE, 0, 0, 3, GO, 0, 0, 4, SKIP, 0, 0, 0,
            USE, 0, 0, 0, MAYBE, 0, 0, 7, GO, 0, 0, 8, GO, 0, 0, 8, USE, 0, 13, 0), 0, 0, 1, 2, 4, 5, 6, 8);
        shows("the least is a target", Dues.program(TAKE, 1, 0, 0, GO, 0, 0, 4, GO, 0, 0, 6, STOP, 0, 0, 0, MAYBE, 0, 0, 2,
            GO, 0, 0, 6, USE, 0, 0, 0, USE, 0, 13, 0), 0, 0, 1, 4, 2, 6, 7);
        shows("from a loan to itself", Dues.program(SHARE, 2, 30, 0, TAKE, 1, 0, 0, MAYBE, 0, 0, 5, MOVE, 2, 10, 0, GO, 0, 0, 1,
            USE, 0, 13, 0, USE, 0, 23, 0), 0, 1, 2, 3, 4, 1, 2, 3);
        shows("a use by one that bears it", Dues.program(TAKE, 1, 0, 0, TAKE, 2, 13, 0, USE, 0, 0, 0, SKIP, 0, 0, 0, USE, 0, 23, 0),
            0, 0, 1, 2, 3, 4);
    }

    private static void witnessEnds() {
        shows("the access is the last use", Dues.program(TAKE, 1, 0, 0, SHARE, 0, 13, 0), 0, 0, 1);
        shows("the access is used by a loop", Dues.program(TAKE, 1, 0, 0, SHARE, 0, 13, 0, GO, 0, 0, 1), 0, 0, 1, 2, 1);
        // the second part may leave the region: point 3 writes x, point 4 reads it all the same
        shows("past the region", Dues.program(TAKE, 1, 0, 0, SHARE, 0, 13, 0, SKIP, 0, 0, 0, SET, 0, 10, 0, USE, 0, 10, 0),
            0, 0, 1, 2, 3, 4);
    }

    private static void witnessIsLong() {
        // a ring of all 24 points, from the loan at 0 to itself
        LoanPoints ring = Dues.program(TAKE, 1, 0, 0, USE, 0, 23, 0, MOVE, 2, 10, 0);
        for (int p = 3; p < 23; p++) {
            ring.add(SKIP, 0, 0, 0);
        }
        ring.add(GO, 0, 0, 0);
        int[] round = new int[26];
        for (int j = 0; j < 26; j++) {
            round[j] = j % 24;
        }
        dues.due("ring: its first error", ring.error(0, 0) + ring.error(0, 1) + ring.error(0, 2), 0);
        shows("ring", ring, 0, round);
        LoanPoints line = Dues.program(TAKE, 1, 0, 0, USE, 0, 0, 0);
        for (int p = 2; p < 23; p++) {
            line.add(SKIP, 0, 0, 0);
        }
        line.add(USE, 0, Dues.place(13), 0);
        int[] all = new int[24];
        for (int j = 0; j < 24; j++) {
            all[j] = j;
        }
        shows("line", line, 0, all);
        // the way by point 0 is shorter, but 0 kills the loan
        LoanPoints around = Dues.program(TAKE, 1, 0, 0, MAYBE, 0, 0, 8, TAKE, 2, 13, 0, MAYBE, 0, 0, 0, SKIP, 0, 0, 0, SKIP, 0, 0, 0,
            SKIP, 0, 0, 0, SKIP, 0, 0, 0, USE, 0, 13, 0, USE, 0, 23, 0);
        is("around", around, 0, 0, 0, 8, 0, 2, 9, 1, 2);
        shows("around what kills", around, 1, 2, 3, 4, 5, 6, 7, 8, 9);
    }

    private static void wrongNumbers() {
        LoanPoints x = Dues.program(TAKE, 1, 0, 0, USE, 0, 0, 0, USE, 0, 13, 0, USE, 0, 23, 0);
        dues.due("error -1", x.error(-1, 0), BAD);
        dues.due("error 1000", x.error(1000, 0), BAD);
        dues.due("error 999", x.error(999, 2), NONE);
        dues.due("error what -1", x.error(0, -1), BAD);
        dues.due("error what 3", x.error(0, 3), BAD);
        dues.due("error what 3 of none", x.error(999, 3), BAD);
        dues.due("witness -1", x.witness(-1, 0), BAD);
        dues.due("witness 1000", x.witness(1000, 0), BAD);
        dues.due("witness j -2", x.witness(0, -2), BAD);
        dues.due("witness j 60", x.witness(0, 60), BAD);
        dues.due("witness j 60 of none", x.witness(999, 60), BAD);
        dues.due("witness of no clash", x.witness(1, NONE), NOT);
        dues.due("witness of none", x.witness(2, 0), NOT);
        dues.due("witness of none", x.witness(999, 59), NOT);
    }
}
