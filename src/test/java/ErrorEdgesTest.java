/** The boundary cases of accesses, errors and witnesses: part 2 of the document, promises 17 to 19. */
public final class ErrorEdgesTest {
    private static final Dues dues = new Dues("ErrorEdgesTest");
    private static final int SKIP = 0, USE = 1, SET = 2, SHARE = 3, TAKE = 4, PLAN = 5, MOVE = 6, MAYBE = 7, GO = 8, STOP = 9;
    private static final int NONE = -1, NOT = -3;

    public static void main(String[] args) {
        readers();
        writers();
        flat();
        ownPlans();
        woken();
        clashes();
        otherKinds();
        order();
        bears();
        firstPart();
        secondPart();
        longest();
        manyErrors();
        dues.end();
    }

    /** Errors as points, kinds and numbers. */
    private static void is(String call, LoanPoints x, String errors) {
        StringBuilder found = new StringBuilder();
        int many = x.errors();
        for (int i = 0; i < many; i++) {
            found.append(i == 0 ? "" : " ").append(x.error(i, 0)).append('.').append(x.error(i, 1)).append('.').append(x.error(i, 2));
        }
        dues.due(call, found.toString(), errors);
        dues.due(call + ": behind all", x.error(many, 0) + x.error(many, 1) + x.error(many, 2), 3 * NONE);
        dues.due(call + ": count 3", x.count(3), many);
    }

    private static void shows(String call, LoanPoints x, int i, int... points) {
        dues.due(call + ": how many", x.witness(i, NONE), points.length);
        for (int j = 0; j < points.length; j++) {
            dues.due(call + ": point " + j, x.witness(i, j), points[j]);
        }
        dues.due(call + ": behind all", x.witness(i, points.length), NONE);
        dues.due(call + ": the last that may be asked", x.witness(i, 59), NONE);
    }

    /** An access between a loan of variable 0 by 1, and the last use of that. */
    private static LoanPoints between(int loanKind, int loanPath, int kind, int x, int place) {
        return Dues.program(loanKind, 1, loanPath, 0, kind, x, place, 0, USE, 0, 13, 0);
    }

    private static void readers() {
        dues.sentence("USE, SHARE, PLAN p, for reading");
        for (int kind : new int[] {USE, SHARE, PLAN}) {
            dues.due("kind " + kind + ", shared", between(SHARE, 0, kind, 2, 0).count(4), 0);
            dues.due("kind " + kind + ", taken", between(TAKE, 0, kind, 2, 0).count(4), 1);
            dues.due("kind " + kind + ", planned", between(PLAN, 0, kind, 2, 0).count(4), 0);
        }
        dues.sentence("or the LOAN is of TAKE, or of PLAN and ACTIVE there");
        for (int kind : new int[] {USE, SHARE, PLAN}) {
            LoanPoints x = Dues.program(PLAN, 1, 0, 0, USE, 0, 13, 0, kind, 2, 0, 0, USE, 0, 13, 0);
            is("kind " + kind + ", planned and active", x, "2.0.0");
            LoanPoints y = Dues.program(SHARE, 1, 0, 0, USE, 0, 13, 0, kind, 2, 0, 0, USE, 0, 13, 0);
            is("kind " + kind + ", shared and gone through", y, "");
        }
        dues.sentence("ACTIVE there: not by what the STATEMENT itself goes THROUGH");
        // the loan's place is the reference itself, so that what goes through it reads it too
        is("a plan of oneself", Dues.program(PLAN, 1, 10, 0, USE, 0, 13, 0, USE, 0, 13, 0, USE, 0, 10, 0), "2.0.0 3.0.0");
    }

    private static void writers() {
        dues.sentence("TAKE p, for writing; MOVE the whole VARIABLE of p, for writing");
        for (int loan : new int[] {SHARE, TAKE, PLAN}) {
            for (int path = 0; path < 6; path++) {
                dues.due("loan " + loan + " and a take", between(loan, path, TAKE, 2, path).count(4), 1);
                for (int moved = 0; moved < 6; moved++) {
                    dues.due("loan " + loan + " of path " + path + " and a move of " + moved, between(loan, path, MOVE, 2, moved).count(4), 1);
                }
            }
        }
        dues.sentence("SHARE, TAKE, PLAN, MOVE x as a whole, flatly, for writing");
        for (int kind : new int[] {SHARE, TAKE, PLAN, MOVE}) {
            for (int path = 0; path < 6; path++) {
                dues.due("a loan of path " + path + " and what x becomes, by " + kind, between(SHARE, path, kind, 0, 70).count(4), path < 3 ? 1 : 0);
            }
        }
        dues.sentence("What a KIND does not name .. does nothing: no other KIND accesses x");
        for (int kind : new int[] {SKIP, USE, SET, MAYBE, GO, STOP}) {
            dues.due("kind " + kind, Dues.program(TAKE, 1, 0, 0, kind, 0, 70, 2, USE, 0, 13, 0).count(4), 0);
        }
    }

    private static void flat() {
        dues.sentence("a flat one does not, if only the LOAN's PLACE goes THROUGH the VARIABLE");
        for (int loan = 3; loan < 6; loan++) {
            for (int set = 0; set < 6; set++) {
                dues.due("a loan of path " + loan + " and a set of " + set, between(TAKE, loan, SET, 0, set).count(4), set < 3 ? 0 : 1);
            }
        }
        dues.due("if only the access goes through", between(TAKE, 0, SET, 0, 3).count(4), 1);
        dues.due("if neither does", between(TAKE, 1, SET, 0, 1).count(4), 1);
        dues.due("what is not flat", between(TAKE, 3, USE, 0, 0).count(4), 1);
        dues.due("what is not flat, and takes", between(SHARE, 3, TAKE, 2, 0).count(4), 1);
        dues.due("what is not flat, and moves", between(SHARE, 3, MOVE, 2, 0).count(4), 1);
    }

    private static void ownPlans() {
        dues.sentence("a PLAN as for writing against its own LOAN, of when it was done ahead of this");
        int[] loop = {PLAN, 1, 0, 0, USE, 0, 20, 0, MOVE, 2, 10, 0, GO, 0, 0, 0};
        is("by a loop", Dues.program(loop), "0.0.0");
        loop[2] = 2;
        is("of a part", Dues.program(loop), "0.0.0");
        loop[0] = SHARE;
        is("a share does not", Dues.program(loop), "");
        is("not of another plan", Dues.program(PLAN, 1, 0, 0, PLAN, 2, 0, 0, USE, 0, 10, 0, USE, 0, 20, 0), "");
        is("not at first", Dues.program(PLAN, 1, 0, 0, MAYBE, 0, 0, 0, USE, 0, 10, 0), "");
    }

    private static void woken() {
        dues.sentence("one that GOES THROUGH a VARIABLE that may be a LOAN of PLAN also that LOAN's p, for writing (but this does not CLASH with that LOAN itself)");
        int[][] goers = {{USE, 0, 13}, {SET, 0, 14}, {SHARE, 3, 15}, {TAKE, 3, 13}, {PLAN, 3, 13}};
        for (int[] g : goers) {
            LoanPoints x = Dues.program(PLAN, 1, 0, 0, SHARE, 2, 1, 0, g[0], g[1], g[2], 0, USE, 0, 23, 0, USE, 0, 13, 0);
            is("kind " + g[0] + " clashes with the other one, not with its own", x, "2.0.1");
        }
        is("its own, twice", Dues.program(PLAN, 1, 0, 0, USE, 0, 13, 0, USE, 0, 13, 0, USE, 0, 13, 0), "");
        is("two plans that it may be clash with one another",
            Dues.program(MAYBE, 0, 0, 3, PLAN, 1, 0, 0, GO, 0, 0, 4, PLAN, 1, 0, 0, USE, 0, 13, 0, USE, 0, 13, 0), "4.0.1 4.0.3 5.0.1 5.0.3");
        is("of parts that do not overlap they do not",
            Dues.program(MAYBE, 0, 0, 3, PLAN, 1, 1, 0, GO, 0, 0, 4, PLAN, 1, 2, 0, USE, 0, 13, 0, USE, 0, 13, 0), "");
        is("a share that it may be wakes nothing",
            Dues.program(MAYBE, 0, 0, 3, SHARE, 1, 0, 0, GO, 0, 0, 4, SHARE, 1, 0, 0, USE, 0, 13, 0, USE, 0, 13, 0), "");
        is("what does not go through it wakes nothing",
            Dues.program(PLAN, 1, 0, 0, SHARE, 2, 0, 0, USE, 0, 10, 0, USE, 0, 23, 0, USE, 0, 10, 0), "");
        is("not flatly: what goes through the place's variable, too",
            Dues.program(TAKE, 0, 70, 0, PLAN, 1, 0, 0, SHARE, 2, 3, 0, USE, 0, 13, 0, USE, 0, 23, 0), "1.3.0 3.0.2");
        is("one that is active already, too",
            Dues.program(PLAN, 1, 0, 0, USE, 0, 13, 0, SHARE, 2, 13, 0, SHARE, 3, 0, 0, USE, 0, 13, 0, USE, 0, 33, 0, USE, 0, 23, 0), "3.0.0 4.0.3");
    }

    private static void clashes() {
        dues.sentence("An ACCESS at a POINT CLASHES with a LOAN that is IN SCOPE ahead of it");
        is("ahead of the last use", Dues.program(TAKE, 1, 0, 0, SET, 0, 0, 0, USE, 0, 13, 0), "1.0.0");
        is("at the last use", Dues.program(TAKE, 1, 0, 0, SHARE, 0, 13, 0), "1.0.0");
        is("behind it", Dues.program(TAKE, 1, 0, 0, USE, 0, 13, 0, SET, 0, 0, 0), "");
        is("ahead of the loan", Dues.program(SET, 0, 0, 0, TAKE, 1, 0, 0, USE, 0, 13, 0), "");
        dues.sentence("each once");
        // the take accesses 0 by its place and by its x; the move by both of its variables
        is("a take", Dues.program(TAKE, 1, 0, 0, TAKE, 0, 1, 0, USE, 0, 13, 0), "1.0.0");
        is("a move", Dues.program(TAKE, 1, 0, 0, MOVE, 0, 0, 0, USE, 0, 13, 0), "1.0.0");
        is("two of one point", Dues.program(SHARE, 1, 0, 0, SHARE, 2, 70, 0, MOVE, 0, 70, 0, USE, 0, 13, 0, USE, 0, 23, 0), "2.0.0 2.0.1");
    }

    private static void otherKinds() {
        dues.sentence("1 NO REFERENCE: it GOES THROUGH a VARIABLE that may be a VALUE: the VARIABLE");
        is("the least and the greatest", Dues.program(USE, 7, 3, 0, USE, 0, 75, 0), "0.1.0 1.1.7");
        is("may be, by one way of two", Dues.program(MAYBE, 0, 0, 2, SHARE, 1, 0, 0, USE, 0, 13, 0), "2.1.1");
        is("by none", Dues.program(MAYBE, 0, 0, 3, SHARE, 1, 0, 0, GO, 0, 0, 4, SHARE, 1, 2, 0, USE, 0, 13, 0), "");
        is("moved from", Dues.program(SHARE, 1, 0, 0, MOVE, 2, 10, 0, USE, 0, 13, 0), "2.1.1");
        is("a move goes through none", Dues.program(MOVE, 1, 3, 0, MOVE, 1, 4, 0, MOVE, 1, 5, 0), "");
        dues.sentence("2 FROZEN: it is SET, TAKE or PLAN and GOES THROUGH a VARIABLE that may be a LOAN of SHARE: the POINT of the LOAN");
        for (int kind = 0; kind <= 9; kind++) {
            boolean frozen = kind == SET || kind == TAKE || kind == PLAN;
            is("kind " + kind, Dues.program(SHARE, 1, 0, 0, kind, 2, 14, 0), frozen ? "1.2.0" : "");
        }
        is("of a share of a taken one", Dues.program(TAKE, 1, 0, 0, SHARE, 2, 13, 0, SET, 0, 23, 0), "2.2.1");
        is("a take of a shared one is taken", Dues.program(SHARE, 1, 0, 0, TAKE, 2, 13, 0, SET, 0, 23, 0), "1.2.0");
        is("two that it may be", Dues.program(MAYBE, 0, 0, 3, SHARE, 1, 0, 0, GO, 0, 0, 4, SHARE, 1, 0, 0, SET, 0, 13, 0), "4.2.1 4.2.3");
        dues.sentence("3 NESTED: it is SHARE, TAKE or PLAN, of p that does not go THROUGH a VARIABLE that may be a LOAN: the VARIABLE");
        for (int kind = 0; kind <= 9; kind++) {
            for (int path = 0; path < 6; path++) {
                boolean nested = path < 3 && (kind == SHARE || kind == TAKE || kind == PLAN);
                is("kind " + kind + " of path " + path, Dues.program(TAKE, 1, 0, 0, kind, 2, 10 + path, 0), nested ? "1.3.1" : "");
            }
        }
        is("may be, by one way of two", Dues.program(MAYBE, 0, 0, 2, SHARE, 1, 0, 0, SHARE, 2, 10, 0), "2.3.1");
        is("once, of two loans", Dues.program(MAYBE, 0, 0, 3, SHARE, 7, 0, 0, GO, 0, 0, 4, SHARE, 7, 1, 0, SHARE, 2, 72, 0), "4.3.7");
        is("set to a value", Dues.program(SHARE, 1, 0, 0, SET, 0, 12, 0, SHARE, 2, 10, 0), "");
        dues.sentence("ACCEPTED is a program with no ERRORS");
        is("no statements", new LoanPoints(), "");
        is("a skip", Dues.program(SKIP, 0, 0, 0), "");
    }

    private static void order() {
        dues.sentence("ERRORS, by POINTS (that are REACHED), of one POINT by kinds, of one kind by numbers");
        // at 9: clashes with two loans, a value, two shares
        LoanPoints x = Dues.program(SHARE, 3, 0, 0, SHARE, 2, 0, 0, MAYBE, 0, 0, 6, SHARE, 1, 0, 0, MAYBE, 0, 0, 6, SHARE, 1, 2, 0,
            SHARE, 4, 13, 0, SHARE, 5, 14, 0, SET, 0, 1, 0, SET, 0, 13, 0, USE, 0, 43, 0, USE, 0, 53, 0, USE, 0, 33, 0, USE, 0, 23, 0);
        is("of one point", x, "6.1.1 7.1.1 8.0.0 8.0.1 8.0.3 9.0.6 9.0.7 9.1.1 9.2.3 9.2.5");
        dues.due("count 4", x.count(4), 5);
        dues.due("count 5", x.count(5), 3);
        dues.due("count 6", x.count(6), 2);
        dues.due("count 7", x.count(7), 0);
        x.alter(2, STOP, 0, 0, 0);
        is("those that are reached alone", x, "");
        x = Dues.program(GO, 0, 0, 2, USE, 0, 13, 0, USE, 0, 23, 0, GO, 0, 0, 1);
        is("by points, not by the way", x, "1.1.1 2.1.2");
    }

    private static void bears() {
        dues.sentence("A VARIABLE BEARS a LOAN, if it is its x, or x of a MOVE from one that BEARS it, or x of a SHARE, TAKE, PLAN THROUGH one that does (at POINTS that are REACHED)");
        for (int kind = SHARE; kind <= PLAN; kind++) {
            for (int path = 0; path < 6; path++) {
                LoanPoints x = Dues.program(TAKE, 0, 70, 0, kind, 7, path, 0);
                dues.due("kind " + kind + " of path " + path, x.bears(0), path < 3 ? Dues.bits(0) : Dues.bits(0, 7));
                LoanPoints y = Dues.program(TAKE, 0, 70, 0, STOP, 0, 0, 0, kind, 7, path, 0);
                dues.due("kind " + kind + " that is not reached", y.bears(0), Dues.bits(0));
            }
        }
        LoanPoints z = Dues.program(TAKE, 0, 70, 0, MOVE, 1, 0, 0, MOVE, 2, 10, 0, MOVE, 3, 20, 0, MOVE, 4, 30, 0, MOVE, 5, 40, 0, MOVE, 6, 50, 0, MOVE, 7, 60, 0);
        dues.due("all of them", z.bears(0), 255);
        z.alter(1, STOP, 1, 0, 0);
        dues.due("a move that is no more", z.bears(0), 1);
        dues.due("the last of 24", lastLoan().bears(23), Dues.bits(7));
        LoanPoints back = Dues.program(MOVE, 5, 40, 0, MOVE, 4, 30, 0, MOVE, 3, 20, 0, MOVE, 2, 10, 0, TAKE, 1, 0, 0);
        dues.due("whatever the order", back.bears(4), Dues.bits(1, 2, 3, 4, 5));
    }

    private static LoanPoints lastLoan() {
        LoanPoints x = new LoanPoints();
        for (int p = 0; p < 23; p++) {
            x.add(SKIP, 0, 0, 0);
        }
        x.add(TAKE, 7, 0, 0);
        return x;
    }

    private static void firstPart() {
        dues.sentence("POINTS from that of the LOAN to the ACCESS, by such a way as makes it IN SCOPE");
        shows("one step, and one more", Dues.program(TAKE, 1, 0, 0, SET, 0, 0, 0, USE, 0, 13, 0), 0, 0, 1, 2);
        // by 2 it is shorter, but 2 sets 1, and the region has no 2
        LoanPoints x = Dues.program(TAKE, 1, 0, 0, MAYBE, 0, 0, 3, GO, 0, 0, 6, SKIP, 0, 0, 0, SKIP, 0, 0, 0, SKIP, 0, 0, 0,
            SET, 0, 0, 0, USE, 0, 13, 0);
        shows("the shorter one", x, 0, 0, 1, 2, 6, 7);
        x.alter(2, SET, 0, 6, 0);
        x.alter(3, GO, 0, 0, 6);
        shows("a way out of the region is none", x, 0, 0, 1, 3, 6, 7);
        // by 7, which kills the loan, and by 11, which is not in the region, it is shorter
        LoanPoints z = Dues.program(TAKE, 1, 0, 0, TAKE, 2, 13, 0, MAYBE, 0, 0, 11, MAYBE, 0, 0, 7, SKIP, 0, 0, 0, SKIP, 0, 0, 0, GO, 0, 0, 8,
            SET, 0, 10, 0, MOVE, 3, 10, 0, USE, 0, 20, 0, STOP, 0, 0, 0, SET, 0, 20, 0, GO, 0, 0, 8);
        is("a way past what kills it", z, "8.0.1");
        shows("a way past what kills it is none", z, 0, 1, 2, 3, 4, 5, 6, 8, 9);
        // by 0, which kills the loan, it is shorter
        LoanPoints k = Dues.program(SET, 0, 10, 0, MAYBE, 0, 0, 10, TAKE, 1, 0, 0, TAKE, 2, 13, 0, MAYBE, 0, 0, 0, SKIP, 0, 0, 0, SKIP, 0, 0, 0,
            SKIP, 0, 0, 0, SKIP, 0, 0, 0, SKIP, 0, 0, 0, MOVE, 3, 10, 0, USE, 0, 20, 0);
        is("a way by 0, which kills it", k, "10.0.3");
        shows("a way by 0, which kills it, is none", k, 0, 3, 4, 5, 6, 7, 8, 9, 10, 11);
        dues.sentence("the shortest first part, of like ones the one with the least second POINT, and so on");
        // 1 goes to 2 or 4, both of them by one more to 6
        LoanPoints y = Dues.program(TAKE, 1, 0, 0, MAYBE, 0, 0, 4, GO, 0, 0, 6, STOP, 0, 0, 0, GO, 0, 0, 6, STOP, 0, 0, 0, SET, 0, 0, 0, USE, 0, 13, 0);
        shows("the least third", y, 0, 0, 1, 2, 6, 7);
        y.alter(2, SKIP, 0, 0, 0);
        y.alter(3, GO, 0, 0, 6);
        shows("but the shortest first", y, 0, 0, 1, 4, 6, 7);
        // from 4 by 5 and 2, or by 8 and 9: the way by 6 and 7 is one longer
        LoanPoints w = Dues.program(TAKE, 1, 0, 0, GO, 0, 0, 4, GO, 0, 0, 10, STOP, 0, 0, 0, MAYBE, 0, 0, 8, MAYBE, 0, 0, 2, SKIP, 0, 0, 0, GO, 0, 0, 10,
            SKIP, 0, 0, 0, GO, 0, 0, 10, SET, 0, 0, 0, USE, 0, 13, 0);
        shows("by a step back", w, 0, 0, 1, 4, 5, 2, 10, 11);
        dues.sentence("such a way, by POINT 0");
        shows("first part", Dues.program(SKIP, 0, 0, 0, SET, 0, 0, 0, USE, 0, 10, 0, TAKE, 1, 0, 0, GO, 0, 0, 0), 0, 3, 4, 0, 1, 2);
        shows("second part", Dues.program(SKIP, 0, 0, 0, USE, 0, 10, 0, TAKE, 1, 0, 0, SET, 0, 0, 0, GO, 0, 0, 0), 0, 2, 3, 4, 0, 1);
        shows("a use at 0", Dues.program(USE, 0, 10, 0, TAKE, 1, 0, 0, SET, 0, 0, 0, GO, 0, 0, 0), 0, 1, 2, 3, 0);
        shows("an access at 0", Dues.program(SET, 0, 0, 0, USE, 0, 10, 0, TAKE, 1, 0, 0, GO, 0, 0, 0), 0, 2, 3, 0, 1);
    }

    private static void secondPart() {
        dues.sentence("and on to the nearest POINT (by one step at least) whose STATEMENT READS any VARIABLE that BEARS the LOAN");
        shows("not the access itself", Dues.program(TAKE, 1, 0, 0, SHARE, 0, 13, 0, USE, 0, 10, 0), 0, 0, 1, 2);
        shows("the access itself, one way round", Dues.program(TAKE, 1, 0, 0, SHARE, 0, 13, 0, GO, 0, 0, 1), 0, 0, 1, 2, 1);
        shows("the nearer of two", Dues.program(TAKE, 1, 0, 0, TAKE, 2, 13, 0, SET, 0, 0, 0, USE, 0, 20, 0, USE, 0, 13, 0), 0, 0, 1, 2, 3);
        shows("of another variable it is none", Dues.program(TAKE, 1, 0, 0, SET, 0, 0, 0, USE, 0, 20, 0, USE, 0, 13, 0), 0, 0, 1, 2, 3);
        dues.sentence("then the shortest second part, likewise");
        LoanPoints y = Dues.program(TAKE, 1, 0, 0, SET, 0, 0, 0, MAYBE, 0, 0, 5, USE, 0, 10, 0, STOP, 0, 0, 0, USE, 0, 13, 0);
        shows("two that are as near", y, 0, 0, 1, 2, 3);
        y.alter(3, GO, 0, 0, 5);
        shows("the shorter one", y, 0, 0, 1, 2, 5);
        y.alter(5, GO, 0, 0, 6);
        y.add(USE, 0, 9, 0);
        y.alter(3, GO, 0, 0, 6);
        shows("the least of like ones", y, 0, 0, 1, 2, 3, 6);
        dues.sentence("If there is no second part, it ends at the ACCESS");
        shows("a last use", Dues.program(TAKE, 1, 0, 0, SHARE, 0, 13, 0), 0, 0, 1);
        shows("a last use, and others behind it", Dues.program(TAKE, 1, 0, 0, SHARE, 0, 13, 0, USE, 0, 20, 0, STOP, 0, 0, 0, USE, 0, 10, 0), 0, 0, 1);
    }

    private static void longest() {
        dues.sentence("how many POINTS (j = NONE), the j-th (0 to 59; NONE)");
        // round from the loan at 0 to itself, and on to the first that reads what bears it
        LoanPoints x = new LoanPoints();
        x.add(TAKE, 1, 0, 0);
        for (int p = 1; p < 21; p++) {
            x.add(SKIP, 0, 0, 0);
        }
        x.add(USE, 0, Dues.place(23), 0);
        x.add(MOVE, 2, Dues.place(10), 0);
        x.add(GO, 0, 0, 0);
        is("a ring", x, "0.0.0 21.1.2");
        int[] points = new int[46];
        for (int j = 0; j < 46; j++) {
            points[j] = j % 24;
        }
        shows("a ring", x, 0, points);
        dues.due("of no clash", x.witness(1, NONE), NOT);
        dues.due("of none", x.witness(2, NONE), NOT);
    }

    private static void manyErrors() {
        dues.sentence("errors: how many; error: of the i-th (0 to 999); NONE");
        // 20 loans of variable 5 by itself, all of them in scope all the way round by what 4 and 5 hand to one another
        LoanPoints x = new LoanPoints();
        java.util.List<int[]> code = new java.util.ArrayList<>();
        for (int p = 0; p < 24; p++) {
            int[] s = p < 14 ? new int[] {TAKE, 5, 30, 0} : p == 14 ? new int[] {TAKE, 5, 29, 0} : p < 22 ? new int[] {PLAN, 5, 31, 0}
                : p == 22 ? new int[] {MAYBE, 0, 0, 0} : new int[] {MOVE, 4, 34, 0};
            code.add(s);
            x.add(s[0], s[1], s[2], s[3]);
        }
        java.util.List<int[]> errors = new Oracle(code).errors();
        int many = errors.size();
        dues.due("more than 300: " + many, many > 300 ? 1 : 0, 1);
        dues.due("errors", x.errors(), many);
        for (int i : new int[] {0, 1, 29, 30, 59, 60, 127, 128, 255, 256, many - 2, many - 1}) {
            for (int what = 0; what < 3; what++) {
                dues.due("error " + i + ", " + what, x.error(i, what), errors.get(i)[what]);
            }
        }
        for (int i : new int[] {many, many + 1, 998, 999}) {
            dues.due("error " + i, x.error(i, 0), NONE);
            dues.due("witness " + i, x.witness(i, 0), NOT);
        }
    }
}
