/** What is found follows each change of the statements: an object that was another program answers as a new one. */
public final class ChangesTest {
    private static final Dues dues = new Dues("ChangesTest");
    private static final int SKIP = 0, USE = 1, SET = 2, SHARE = 3, TAKE = 4, PLAN = 5, MOVE = 6, MAYBE = 7, GO = 8, STOP = 9;

    private static final int[][] PROGRAMS = {
        {SKIP, 0, 0, 0, SKIP, 0, 0, 0, SKIP, 0, 0, 0, SKIP, 0, 0, 0, SKIP, 0, 0, 0, SKIP, 0, 0, 0},
        {USE, 0, 0, 0, USE, 0, 13, 0, USE, 0, 23, 0, USE, 0, 33, 0, USE, 0, 0, 0, USE, 0, 70, 0},
        {TAKE, 1, 0, 0, USE, 0, 0, 0, SET, 0, 13, 0, SET, 0, 0, 0, USE, 0, 13, 0, SKIP, 0, 0, 0},
        {PLAN, 1, 0, 0, USE, 0, 13, 0, USE, 0, 0, 0, SHARE, 2, 0, 0, USE, 0, 13, 0, USE, 0, 23, 0},
        {SHARE, 1, 0, 0, USE, 0, 0, 0, SET, 0, 13, 0, SHARE, 2, 10, 0, USE, 0, 23, 0, USE, 0, 13, 0},
        {PLAN, 1, 0, 0, USE, 0, 0, 0, SHARE, 3, 0, 0, USE, 0, 10, 0, USE, 0, 33, 0, MAYBE, 0, 0, 0},
        {TAKE, 1, 0, 0, TAKE, 2, 13, 0, MAYBE, 0, 0, 4, SET, 0, 10, 0, MOVE, 3, 10, 0, USE, 0, 23, 0},
        {TAKE, 1, 0, 0, TAKE, 1, 13, 0, TAKE, 2, 13, 0, SET, 0, 23, 0, USE, 0, 13, 0, GO, 0, 0, 1},
        {GO, 0, 0, 3, TAKE, 1, 0, 0, STOP, 0, 0, 0, TAKE, 2, 0, 0, MOVE, 1, 20, 0, GO, 0, 0, 1},
        {TAKE, 0, 70, 0, TAKE, 1, 3, 0, SHARE, 0, 60, 0, USE, 0, 13, 0, USE, 0, 3, 0, USE, 0, 0, 0},
        {STOP, 0, 0, 0, TAKE, 1, 0, 0, SET, 0, 0, 0, USE, 0, 13, 0, PLAN, 2, 13, 0, USE, 0, 0, 0},
        {TAKE, 1, 0, 0, USE, 0, 23, 0, MOVE, 2, 10, 0, MAYBE, 0, 0, 0, USE, 0, 0, 0, USE, 0, 13, 0},
        {TAKE, 1, 0, 0, TAKE, 2, 13, 0, SET, 0, 10, 0, SET, 0, 10, 0, USE, 0, 23, 0, SKIP, 0, 0, 0},
        {TAKE, 1, 0, 0, TAKE, 2, 10, 0, SET, 0, 10, 0, SET, 0, 10, 0, USE, 0, 23, 0, SKIP, 0, 0, 0},
        {TAKE, 1, 0, 0, MAYBE, 0, 0, 3, USE, 0, 13, 0, USE, 0, 0, 0, USE, 0, 13, 0, STOP, 0, 0, 0}};

    public static void main(String[] args) {
        for (int a = 0; a < PROGRAMS.length; a++) {
            for (int b = 0; b < PROGRAMS.length; b++) {
                altered(a, b);
                undone(a, b);
                cleared(a, b);
            }
            oneByOne(a);
            asked(a);
            ran(a);
        }
        dues.end();
    }

    private static String want(int b) {
        return Whole.found(Dues.program(PROGRAMS[b]));
    }

    private static void asked(int a) {
        dues.sentence("what is asked changes nothing");
        LoanPoints x = Dues.program(PROGRAMS[a]);
        String first = Whole.found(x);
        dues.due("asked again, " + a, Whole.found(x), first);
    }

    /** Runs leave nothing behind for the next one, whatever was asked ahead of it. */
    private static void ran(int a) {
        dues.sentence("RUN by CHOICES: each from POINT 0 on");
        LoanPoints x = Dues.program(PROGRAMS[a]);
        for (int turn = 0; turn < 120; turn++) {
            int choices = turn * 0x2545f491;
            int steps = turn * 37 % 40;
            LoanPoints fresh = Dues.program(PROGRAMS[a]);
            for (int what = 0; what < 3; what++) {
                dues.due("run " + choices + ", " + steps + ", " + what + " of " + a, x.run(choices, steps, what), fresh.run(choices, steps, what));
            }
        }
    }

    private static void altered(int a, int b) {
        LoanPoints x = Dues.program(PROGRAMS[a]);
        x.digest();
        dues.sentence("The STATEMENT at a POINT is another one: 1");
        for (int p = 0; p < 6; p++) {
            int[] s = PROGRAMS[b];
            dues.due("alter", x.alter(p, s[4 * p], s[4 * p + 1], Dues.place(s[4 * p + 2]), s[4 * p + 3]), 1);
            x.digest();
        }
        dues.due("from " + a + " to " + b, Whole.found(x), want(b));
    }

    private static void undone(int a, int b) {
        LoanPoints x = Dues.program(PROGRAMS[a]);
        x.digest();
        dues.sentence("The last STATEMENT is undone: how many are left");
        for (int left = 5; left >= 0; left--) {
            dues.due("back", x.back(), left);
            x.digest();
        }
        for (int p = 0; p < 6; p++) {
            int[] s = PROGRAMS[b];
            dues.due("add", x.add(s[4 * p], s[4 * p + 1], Dues.place(s[4 * p + 2]), s[4 * p + 3]), p + 1);
            x.digest();
        }
        dues.due("from " + a + " to " + b, Whole.found(x), want(b));
    }

    private static void cleared(int a, int b) {
        LoanPoints x = Dues.program(PROGRAMS[a]);
        x.sheet(0, 2, 24);
        x.digest();
        for (int i = 0; i < 24; i++) {
            int number = PROGRAMS[b][i];
            x.put(0, 2, i, i % 4 == 2 ? Dues.place(number) : number);
        }
        dues.sentence("All are undone: how many there were; STATEMENTS from a SHEET");
        dues.due("clear", x.clear(), 6);
        x.digest();
        dues.due("read", x.read(0), 6);
        dues.due("from " + a + " to " + b, Whole.found(x), want(b));
    }

    /** Each beginning of a program, by what is left of it, and by what it grows to. */
    private static void oneByOne(int a) {
        dues.sentence("STATEMENTS are at POINTS 0 on: each beginning of a program is one");
        LoanPoints grows = new LoanPoints();
        LoanPoints shrinks = Dues.program(PROGRAMS[a]);
        long[] digests = new long[7];
        for (int size = 0; size <= 6; size++) {
            digests[size] = grows.digest();
            if (size < 6) {
                int[] s = PROGRAMS[a];
                grows.add(s[4 * size], s[4 * size + 1], Dues.place(s[4 * size + 2]), s[4 * size + 3]);
            }
        }
        for (int size = 6; size >= 0; size--) {
            dues.due("the first " + size + " of " + a, shrinks.digest(), digests[size]);
            shrinks.back();
        }
    }
}
