/** The boundary cases of mend, soft and run: part 3 of the document, promises 20 to 22. */
public final class PlanEdgesTest {
    private static final Dues dues = new Dues("PlanEdgesTest");
    private static final int SKIP = 0, USE = 1, SET = 2, SHARE = 3, TAKE = 4, PLAN = 5, MOVE = 6, MAYBE = 7, GO = 8, STOP = 9;
    private static final int NONE = -1;
    private static final int LEAST = Integer.MIN_VALUE, MOST = Integer.MAX_VALUE;

    public static void main(String[] args) {
        mend();
        soft();
        choices();
        choicesRound();
        steps();
        whys();
        spots();
        spared();
        planned();
        manyReferences();
        dues.end();
    }

    private static void mends(String call, LoanPoints x, int point, int errors) {
        String before = Whole.found(x);
        dues.due(call + ": which", x.mend(0), point);
        dues.due(call + ": how many", x.mend(1), errors);
        dues.due(call + ": what is found stays", Whole.found(x), before);
    }

    private static void mend() {
        dues.sentence("NONE: there are no STATEMENTS");
        mends("none", new LoanPoints(), NONE, NONE);
        LoanPoints x = Dues.program(USE, 0, 3, 0);
        x.back();
        mends("none any more", x, NONE, NONE);
        dues.sentence("the POINT that had better be SKIP, by which there are fewest ERRORS");
        mends("the first", Dues.program(USE, 0, 3, 0, SKIP, 0, 0, 0), 0, 0);
        mends("the last", Dues.program(SKIP, 0, 0, 0, USE, 0, 3, 0), 1, 0);
        LoanPoints last = new LoanPoints();
        for (int p = 0; p < 23; p++) {
            last.add(SKIP, p % 8, p, p);
        }
        last.add(SET, 0, 47, 0);
        dues.due("the last of 24", last.mend(0), 23);
        dues.due("the last of 24, how many", last.mend(1), 0);
        mends("the loan, not one of its three clashes", Dues.program(TAKE, 1, 0, 0, USE, 0, 0, 0, SET, 0, 0, 0, USE, 0, 0, 0, USE, 0, 13, 0), 4, 0);
        mends("a stop is not taken away, where it hides errors", Dues.program(SKIP, 0, 0, 0, STOP, 0, 0, 0, USE, 0, 3, 0), 0, 0);
        mends("a jump is, where it leads to them", Dues.program(GO, 0, 0, 2, STOP, 0, 0, 0, USE, 0, 3, 0, USE, 0, 13, 0, USE, 0, 23, 0), 0, 0);
        dues.sentence("of like ones the least");
        mends("an accepted program", Dues.program(SHARE, 1, 0, 0, USE, 0, 13, 0), 1, 0);
        mends("three alike", Dues.program(USE, 0, 3, 0, USE, 0, 13, 0, USE, 0, 23, 0), 0, 2);
        mends("all of them skips", Dues.program(SKIP, 0, 0, 0, SKIP, 0, 0, 0), 0, 0);
        mends("one that is not reached", Dues.program(STOP, 0, 0, 0, USE, 0, 3, 0), 1, 0);
        mends("more errors than there were", Dues.program(STOP, 0, 0, 0), 0, 0);
        mends("more errors by each", Dues.program(SHARE, 1, 0, 0, GO, 0, 0, 3, USE, 0, 3, 0, USE, 0, 13, 0), 2, 0);
    }

    private static void soft() {
        dues.sentence("POINTS of TAKE, PLAN each of which alone as SHARE would make no more ERRORS");
        dues.due("no statements", new LoanPoints().soft(), 0);
        for (int kind = 0; kind <= 9; kind++) {
            LoanPoints x = Dues.program(kind, 1, 0, 0, SKIP, 0, 0, 0);
            dues.due("kind " + kind, x.soft(), kind == TAKE || kind == PLAN ? 1 : 0);
            dues.due("kind " + kind + " stays", x.code(0, 0), kind);
        }
        dues.due("as many errors as before", Dues.program(TAKE, 1, 0, 0, USE, 0, 0, 0, SET, 0, 13, 0).soft(), 1);
        dues.due("one more", Dues.program(TAKE, 1, 0, 0, SET, 0, 13, 0).soft(), 0);
        dues.due("fewer", Dues.program(TAKE, 1, 0, 0, USE, 0, 0, 0, USE, 0, 13, 0).soft(), 1);
        // as SHARE, either of the two leaves the other to clash as before; both at once are not asked for
        dues.due("each alone", Dues.program(TAKE, 1, 0, 0, TAKE, 2, 13, 0, SET, 0, 23, 0).soft(), 0);
        dues.due("one of two", Dues.program(TAKE, 1, 0, 0, TAKE, 2, 13, 0, USE, 0, 23, 0).soft(), Dues.bits(1));
        dues.due("a plan through a variable", Dues.program(TAKE, 1, 0, 0, PLAN, 2, 13, 0, USE, 0, 23, 0).soft(), Dues.bits(1));
        dues.due("not reached", Dues.program(STOP, 0, 0, 0, TAKE, 1, 0, 0, PLAN, 2, 13, 0, SHARE, 3, 0, 0).soft(), Dues.bits(1, 2));
        LoanPoints all = new LoanPoints();
        for (int p = 0; p < 24; p++) {
            all.add(p % 2 == 0 ? TAKE : PLAN, 7, 0, 0);
        }
        dues.due("all of 24", all.soft(), 0xffffff);
    }

    private static void runs(String call, LoanPoints x, int choices, int steps, int point, int why, int done) {
        dues.due(call + ": point", x.run(choices, steps, 0), point);
        dues.due(call + ": why", x.run(choices, steps, 1), why);
        dues.due(call + ": done", x.run(choices, steps, 2), done);
    }

    private static void choices() {
        dues.sentence("at the j-th MAYBE (0 on) it goes to TARGET, if bit j modulo 31 of CHOICES is 1");
        LoanPoints x = Dues.program(MAYBE, 0, 0, 0, STOP, 0, 0, 0);
        for (int j = 0; j <= 30; j++) {
            dues.due("all but bit " + j, x.run(~(1 << j), 300, 2), j + 2);
            dues.due("all but bits " + j + " and 31", x.run(MOST & ~(1 << j), 300, 2), j + 2);
        }
        LoanPoints y = new LoanPoints();
        for (int p = 0; p < 23; p++) {
            y.add(MAYBE, 0, 0, 23);
        }
        y.add(STOP, 0, 0, 0);
        for (int j = 0; j < 23; j++) {
            dues.due("bit " + j + " alone", y.run(1 << j, 300, 2), j + 2);
        }
        for (int j = 23; j < 32; j++) {
            dues.due("bit " + j + " alone", y.run(1 << j, 300, 2), 24);
        }
        dues.sentence("the j-th MAYBE: no other STATEMENT counts");
        LoanPoints z = Dues.program(SKIP, 0, 0, 0, GO, 0, 0, 2, USE, 0, 0, 0, MAYBE, 0, 0, 0, SHARE, 1, 0, 0, MAYBE, 0, 0, 0, STOP, 0, 0, 0);
        runs("bit 0", z, 1, 300, NONE, NONE, 11);
        runs("bit 1", z, 2, 300, NONE, NONE, 13);
        runs("neither", z, ~3, 300, NONE, NONE, 7);
    }

    /** It ends at the first two choices of 0 that follow one another. */
    private static void choicesRound() {
        dues.sentence("bit j modulo 31: from bit 30 on to bit 0, and never bit 31");
        LoanPoints x = Dues.program(MAYBE, 0, 0, 0, MAYBE, 0, 0, 0, STOP, 0, 0, 0);
        int ends = 1 | 1 << 30;
        dues.due("bit 30, then bit 0, bit 31 is 0", x.run(MOST & ~ends, 300, 2), 33);
        dues.due("bit 30, then bit 0, bit 31 is 1", x.run(~ends, 300, 2), 33);
        dues.due("bits 1 and 2", x.run(~6, 300, 2), 4);
        dues.due("bits 29 and 30", x.run(~(3 << 29), 300, 2), 32);
        dues.due("bits 30 and 31 do not follow one another", x.run(~(3 << 30), 300, 2), 300);
        dues.due("bits 31 and 0 do not", x.run(~(LEAST | 1), 300, 2), 300);
        dues.due("none", x.run(-1, 300, 2), 300);
        dues.due("all but bit 31", x.run(MOST, 300, 2), 300);
        dues.due("bit 31 alone", x.run(LEAST, 300, 2), 3);
    }

    private static void steps() {
        dues.sentence("RUN, of at most 0 to 300 STATEMENTS");
        LoanPoints ring = Dues.program(GO, 0, 0, 0);
        for (int steps : new int[] {0, 1, 2, 60, 255, 256, 299, 300}) {
            runs("a ring of one, " + steps, ring, 0, steps, NONE, NONE, steps);
        }
        LoanPoints line = new LoanPoints();
        for (int p = 0; p < 23; p++) {
            line.add(SKIP, 0, 0, 0);
        }
        line.add(USE, 0, 3, 0);
        runs("one less than to the bad one", line, 0, 23, NONE, NONE, 23);
        runs("just to the bad one", line, 0, 24, 23, 1, 24);
        runs("one more", line, 0, 25, 23, 1, 24);
        line.alter(0, USE, 0, 3, 0);
        runs("fewer than asked before", ring, 0, 0, NONE, NONE, 0);
        runs("more again", ring, 0, 7, NONE, NONE, 7);
        runs("fewer again", ring, 0, 3, NONE, NONE, 3);
        runs("no steps to the first", line, 0, 0, NONE, NONE, 0);
        runs("the first", line, 0, 1, 0, 1, 1);
        dues.sentence("how many are done (2; with that one)");
        runs("to the end", Dues.program(SKIP, 0, 0, 0, SKIP, 0, 0, 0), 0, 300, NONE, NONE, 2);
        runs("with the stop", Dues.program(STOP, 0, 0, 0), 0, 300, NONE, NONE, 1);
        runs("with the jump to no statement", Dues.program(GO, 0, 0, 1), 0, 300, NONE, NONE, 1);
        runs("no statements", new LoanPoints(), -1, 300, NONE, NONE, 0);
    }

    private static void whys() {
        dues.sentence("A STATEMENT is BAD, if it GOES THROUGH a VARIABLE that is a VALUE (1)");
        runs("a value", Dues.program(USE, 0, 75, 0), 0, 300, 0, 1, 1);
        runs("a move through none", Dues.program(MOVE, 1, 75, 0, STOP, 0, 0, 0), 0, 300, NONE, NONE, 2);
        dues.sentence("or a reference that is not FRESH, or FROM one that is not, and so on (2)");
        // each is made from the one ahead of it; to set 0 leaves none of them fresh, to use it by the first one leaves that alone
        LoanPoints chain = Dues.program(TAKE, 1, 0, 0, TAKE, 2, 13, 0, TAKE, 3, 23, 0, TAKE, 4, 33, 0, SET, 0, 0, 0, USE, 0, 43, 0);
        runs("a chain", chain, 0, 300, 5, 2, 6);
        chain.alter(4, USE, 0, 9, 0);
        runs("by the first of the chain", chain, 0, 300, 5, 2, 6);
        // the first is used up, and what was shared through it stays fresh itself
        runs("from one that is not fresh", Dues.program(TAKE, 1, 0, 0, SHARE, 2, 13, 0, SHARE, 3, 23, 0, USE, 0, 0, 0, USE, 0, 33, 0), 0, 300, 4, 2, 5);
        dues.sentence("or is SET, TAKE, PLAN and does so by one of SHARE, or FROM one of SHARE, and so on (3)");
        for (int kind = USE; kind <= PLAN; kind++) {
            boolean writes = kind == SET || kind == TAKE || kind == PLAN;
            runs("kind " + kind, Dues.program(SHARE, 1, 0, 0, kind, 2, 14, 0), 0, 300, writes ? 1 : NONE, writes ? 3 : NONE, 2);
        }
        runs("from a share, by moves", Dues.program(TAKE, 1, 0, 0, SHARE, 2, 13, 0, MOVE, 3, 20, 0, SHARE, 4, 33, 0, MOVE, 5, 40, 0, SET, 0, 53, 0),
            0, 300, 5, 3, 6);
        runs("a share from a take is no hindrance to that", Dues.program(TAKE, 1, 0, 0, SHARE, 2, 13, 0, SET, 0, 13, 0), 0, 300, NONE, NONE, 3);
        dues.sentence("the first of 1 to 4 that fits");
        runs("stale and shared", Dues.program(SHARE, 1, 0, 0, SET, 0, 0, 0, TAKE, 2, 13, 0), 0, 300, 2, 2, 3);
        dues.sentence("or lends a VARIABLE that is a reference, and does not go THROUGH it (4)");
        for (int kind = USE; kind <= MOVE; kind++) {
            for (int path = 0; path < 3; path++) {
                boolean lends = kind == SHARE || kind == TAKE || kind == PLAN;
                runs("kind " + kind + " of path " + path, Dues.program(SHARE, 1, 0, 0, kind, 2, 10 + path, 0), 0, 300, lends ? 1 : NONE, lends ? 4 : NONE, 2);
            }
        }
        runs("a reference that is not fresh", Dues.program(SHARE, 1, 0, 0, SET, 0, 0, 0, SHARE, 2, 10, 0), 0, 300, 2, 4, 3);
    }

    private static void spots() {
        for (int v = 0; v < 8; v++) {
            spotsOf(v);
            spotsThrough(v);
            spotsWritten(v);
        }
    }

    /** What is written of a variable meets a reference to it, or does not. */
    private static void spotsOf(int v) {
        dues.sentence("A SPOT meets another of its VARIABLE, if either is whole, or both are one");
        int r = (v + 3) % 8;
        for (int a = 0; a < 3; a++) {
            for (int b = 0; b < 3; b++) {
                boolean meets = a == 0 || b == 0 || a == b;
                LoanPoints x = Dues.program(SHARE, r, 10 * v + a, 0, SET, 0, 10 * v + b, 0, USE, 0, 10 * r + 3, 0);
                dues.due("spots " + a + ", " + b + " of " + v, x.run(0, 9, 1), meets ? 2 : NONE);
                for (int u = 0; u < 8; u++) {
                    LoanPoints y = Dues.program(SHARE, r, 10 * v + a, 0, SET, 0, 10 * u + b, 0, USE, 0, 10 * r + 3, 0);
                    int why = u == r ? 1 : u == v && meets ? 2 : NONE;
                    dues.due("spots " + a + " of " + v + " and " + b + " of " + u, y.run(0, 9, 1), why);
                }
            }
        }
    }

    private static void spotsThrough(int v) {
        dues.sentence("THROUGH a reference: that one's SPOT; the first, second part of it is that part of its VARIABLE, if it is whole, else itself");
        int r = (v + 1) % 8;
        int s = (v + 5) % 8;
        int t = (v + 6) % 8;
        for (int a = 0; a < 3; a++) {
            for (int path = 3; path < 6; path++) {
                for (int other = 3; other < 6; other++) {
                    int one = a == 0 ? path - 3 : a;
                    int two = a == 0 ? other - 3 : a;
                    LoanPoints x = Dues.program(TAKE, r, 10 * v + a, 0, TAKE, s, 10 * r + path, 0, TAKE, t, 10 * r + other, 0, SET, 0, 10 * s + 3, 0);
                    boolean meets = one == 0 || two == 0 || one == two;
                    dues.due("paths " + path + ", " + other + " of spot " + a + " of " + v, x.run(0, 9, 1), meets ? 2 : NONE);
                }
            }
        }
    }

    /** What moves and lends write: the whole of their variables. */
    private static void spotsWritten(int v) {
        dues.sentence("MOVE the whole VARIABLE of p, for writing; SHARE, TAKE, PLAN, MOVE x as a whole");
        int r = (v + 2) % 8;
        int free = (v + 4) % 8;
        for (int u = 0; u < 8; u++) {
            if (u == r || u == free) {
                continue;
            }
            for (int a = 0; a < 3; a++) {
                int stale = u == v ? 2 : NONE;
                LoanPoints moved = Dues.program(SHARE, r, 10 * v + a, 0, MOVE, free, 10 * u + a, 0, USE, 0, 10 * r + 3, 0);
                dues.due("a move of " + u + " and a loan of " + v, moved.run(0, 9, 1), stale);
                for (int kind = SHARE; kind <= MOVE; kind++) {
                    LoanPoints become = Dues.program(SHARE, r, 10 * v + a, 0, kind, u, 10 * free, 0, USE, 0, 10 * r + 3, 0);
                    dues.due("kind " + kind + " to " + u + " and a loan of " + v, become.run(0, 9, 1), stale);
                }
            }
        }
    }

    private static void spared() {
        dues.sentence("makes all FRESH references .. no longer FRESH, but that one, and those that one is FROM, and so on");
        runs("the chain is spared", Dues.program(TAKE, 1, 0, 0, TAKE, 2, 13, 0, TAKE, 3, 23, 0, SET, 0, 33, 0, SET, 0, 33, 0, SET, 0, 23, 0, SET, 0, 13, 0),
            0, 300, NONE, NONE, 7);
        runs("one beside it is not", Dues.program(TAKE, 1, 0, 0, SHARE, 2, 13, 0, SHARE, 3, 13, 0, SET, 0, 13, 0, USE, 0, 33, 0), 0, 300, 4, 2, 5);
        runs("the newer is not by the older", Dues.program(TAKE, 1, 0, 0, TAKE, 2, 13, 0, USE, 0, 14, 0, USE, 0, 23, 0), 0, 300, 3, 2, 4);
        dues.sentence("if it is for writing, or they are of TAKE, or of PLAN and ACTIVE");
        for (int kind : new int[] {SHARE, TAKE, PLAN}) {
            runs("a use, kind " + kind, Dues.program(kind, 1, 0, 0, USE, 0, 0, 0, USE, 0, 13, 0), 0, 300, kind == TAKE ? 2 : NONE, kind == TAKE ? 2 : NONE, 3);
            runs("a set, kind " + kind, Dues.program(kind, 1, 0, 0, SET, 0, 0, 0, USE, 0, 13, 0), 0, 300, 2, 2, 3);
        }
        for (int kind : new int[] {USE, SHARE, PLAN}) {
            runs("what is taken is read, by kind " + kind, Dues.program(TAKE, 1, 0, 0, kind, 2, 1, 0, USE, 0, 13, 0), 0, 300, 2, 2, 3);
            runs("what is shared is read, by kind " + kind, Dues.program(SHARE, 1, 0, 0, kind, 2, 1, 0, USE, 0, 13, 0), 0, 300, NONE, NONE, 3);
        }
        for (int kind : new int[] {SET, TAKE}) {
            runs("what is shared is written, by kind " + kind, Dues.program(SHARE, 1, 0, 0, kind, 2, 1, 0, USE, 0, 13, 0), 0, 300, 2, 2, 3);
        }
        for (int path = 0; path < 3; path++) {
            runs("a reference that is set is a value", Dues.program(SHARE, 1, 0, 0, SET, 0, 10 + path, 0, USE, 0, 13, 0), 0, 300, 2, 1, 3);
        }
        runs("set through, it is not", Dues.program(TAKE, 1, 0, 0, SET, 0, 13, 0, USE, 0, 13, 0), 0, 300, NONE, NONE, 3);
        dues.sentence("An ACCESS to a VARIABLE itself is by none");
        runs("a use of the reference", Dues.program(TAKE, 1, 0, 0, USE, 0, 10, 0, SET, 0, 13, 0), 0, 300, NONE, NONE, 3);
        runs("a use of what is lent by itself", Dues.program(TAKE, 1, 10, 0, USE, 0, 10, 0, USE, 0, 13, 0), 0, 300, 2, 2, 3);
        runs("a use through what is lent by itself", Dues.program(TAKE, 1, 10, 0, USE, 0, 13, 0, SET, 0, 13, 0), 0, 300, NONE, NONE, 3);
        dues.sentence("then its ACCESSES, in the order of part 2 (p, or the VARIABLE of p; then x)");
        for (int kind : new int[] {SHARE, TAKE, PLAN, MOVE}) {
            runs("x is written by kind " + kind, Dues.program(SHARE, 1, 2, 0, kind, 0, 70, 0, USE, 0, 13, 0), 0, 300, 2, 2, 3);
        }
        runs("what is moved is written, whatever its path", Dues.program(SHARE, 1, 2, 0, MOVE, 3, 1, 0, USE, 0, 13, 0), 0, 300, 2, 2, 3);
    }

    private static void planned() {
        dues.sentence("a reference of PLAN THROUGH which it goes becomes ACTIVE, if it is not, by an ACCESS to its own SPOT for writing, by itself");
        int[][] goers = {{USE, 0, 14}, {SET, 0, 14}, {SHARE, 3, 14}, {TAKE, 3, 14}, {PLAN, 3, 14}};
        for (int[] g : goers) {
            runs("all of its spot, by kind " + g[0],
                Dues.program(PLAN, 1, 0, 0, SHARE, 2, 2, 0, g[0], g[1], g[2], 0, USE, 0, 23, 0), 0, 300, 3, 2, 4);
            runs("once, by kind " + g[0],
                Dues.program(PLAN, 1, 0, 0, USE, 0, 13, 0, SHARE, 2, 15, 0, g[0], g[1], g[2], 0, USE, 0, 23, 0), 0, 300, NONE, NONE, 5);
        }
        runs("not by a use of the reference itself", Dues.program(PLAN, 1, 0, 0, USE, 0, 10, 0, USE, 0, 0, 0, USE, 0, 13, 0), 0, 300, NONE, NONE, 4);
        runs("moved, it is the same one", Dues.program(PLAN, 1, 0, 0, USE, 0, 13, 0, MOVE, 2, 10, 0, USE, 0, 0, 0, USE, 0, 23, 0), 0, 300, 4, 2, 5);
        dues.sentence("All references are FRESH at first, those of PLAN not ACTIVE; made anew by each");
        // the second time round the plan is a new one, and 0 may be used once more
        LoanPoints x = Dues.program(PLAN, 1, 0, 0, USE, 0, 0, 0, SET, 0, 13, 0, GO, 0, 0, 0);
        runs("round and round", x, 0, 300, NONE, NONE, 300);
        x.alter(3, GO, 0, 0, 1);
        runs("not made anew", x, 0, 300, 2, 2, 6);
    }

    private static void manyReferences() {
        dues.sentence("A reference is made anew by each SHARE, TAKE, PLAN: of 300 of them");
        LoanPoints x = new LoanPoints();
        for (int p = 0; p < 23; p++) {
            x.add(p == 0 ? TAKE : SHARE, p % 7, 42, 0);
        }
        x.add(GO, 0, 0, 0);
        runs("many", x, 0, 300, NONE, NONE, 300);
        // each is made through the one ahead of it: a chain of 299 of them, used at its end
        LoanPoints y = Dues.program(TAKE, 1, 0, 0, TAKE, 1, 13, 0, MAYBE, 0, 0, 1, SET, 0, 13, 0);
        runs("a long chain", y, MOST, 300, NONE, NONE, 300);
        runs("a chain of 31, then what is at its end", y, MOST & ~(1 << 30), 300, NONE, NONE, 64);
        LoanPoints z = Dues.program(TAKE, 1, 0, 0);
        for (int p = 1; p < 23; p++) {
            z.add(TAKE, 1, 9, 0);
        }
        z.add(GO, 0, 0, 1);
        runs("a chain of 286", z, 0, 300, NONE, NONE, 300);
        z.alter(22, SHARE, 1, 9, 0);
        runs("from a share, far behind", z, 0, 300, 1, 3, 25);
    }
}
