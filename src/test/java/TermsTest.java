/** The boundary cases of the document's terms: places, kinds, jumps, points that are not reached, loans of oneself. */
public final class TermsTest {
    private static final Dues dues = new Dues("TermsTest");
    private static final int SKIP = 0, USE = 1, SET = 2, SHARE = 3, TAKE = 4, PLAN = 5, MOVE = 6, MAYBE = 7, GO = 8, STOP = 9;
    private static final int VALUE = 1 << 24;

    public static void main(String[] args) {
        places();
        overlaps();
        unnamed();
        plansThrough();
        movesToItself();
        jumps();
        ends();
        reached();
        unreached();
        readsFirst();
        live();
        regions();
        holds();
        steps();
        kills();
        killsAll();
        ownLoans();
        active();
        dues.end();
    }

    private static void places() {
        dues.sentence("A PLACE is a number 0 to 47: 6 times a VARIABLE, and its PATH");
        for (int place = 0; place < 48; place++) {
            LoanPoints x = new LoanPoints();
            x.add(USE, 0, place, 0);
            for (int v = 0; v < 8; v++) {
                dues.due("live of " + v + " by a use of place " + place, x.live(v), v == place / 6 ? 1 : 0);
            }
        }
        dues.sentence("PATHS 3, 4, 5 go THROUGH the VARIABLE");
        for (int place = 0; place < 48; place++) {
            boolean through = place % 6 >= 3;
            for (int kind = 0; kind <= 9; kind++) {
                LoanPoints x = new LoanPoints();
                x.add(kind, 0, place, 0);
                boolean goes = through && kind >= USE && kind <= PLAN;
                String call = "kind " + kind + " of place " + place;
                dues.due(call + ": no reference", x.count(5), goes ? 1 : 0);
                dues.due(call + ": which", x.error(0, 2), goes ? place / 6 : -1);
                dues.due(call + ": run", x.run(0, 1, 1), goes ? 1 : -1);
            }
        }
    }

    private static void overlaps() {
        dues.sentence("Two PLACES OVERLAP, if they are of one VARIABLE, and their PATHS are alike, or one of them is 0, or both go THROUGH it");
        String[] overlap = {"111111", "110000", "101000", "100111", "100111", "100111"};
        for (int a = 0; a < 48; a++) {
            for (int b = 0; b < 48; b++) {
                int x = 0;
                while (x == a / 6 || x == b / 6) {
                    x++;
                }
                LoanPoints points = new LoanPoints();
                points.add(TAKE, x, a, 0);
                points.add(USE, 0, b, 0);
                points.add(USE, 0, 6 * x + 3, 0);
                int want = a / 6 == b / 6 ? overlap[a % 6].charAt(b % 6) - '0' : 0;
                dues.due("a take of place " + a + " and a use of place " + b, points.count(4), want);
            }
        }
    }

    /** A program around one statement of a kind, in which each number that counts would be seen. */
    private static LoanPoints around(int kind, int x, int place, int target) {
        LoanPoints points = Dues.program(TAKE, 1, 0, 0, PLAN, 2, 34, 0, MAYBE, 0, 0, 5);
        points.add(kind, x, place, target);
        points.add(USE, 0, Dues.place(13), 0);
        points.add(SET, 0, Dues.place(23), 0);
        points.add(USE, 0, Dues.place(3), 0);
        points.add(MAYBE, 0, 0, 2);
        return points;
    }

    private static void unnamed() {
        dues.sentence("What a KIND does not name is told, and does nothing");
        int[] namesX = {SHARE, TAKE, PLAN, MOVE};
        int[] namesPlace = {USE, SET, SHARE, TAKE, PLAN, MOVE};
        int[] namesTarget = {MAYBE, GO};
        for (int kind = 0; kind <= 9; kind++) {
            String found = Whole.found(around(kind, 1, 8, 5));
            for (int x = 0; x < 8 && !has(namesX, kind); x++) {
                LoanPoints points = around(kind, x, 8, 5);
                dues.due("x " + x + " of kind " + kind + " is told", points.code(3, 1), x);
                dues.due("x " + x + " of kind " + kind, Whole.found(points), found);
            }
            for (int place = 0; place < 48 && !has(namesPlace, kind); place++) {
                LoanPoints points = around(kind, 1, place, 5);
                dues.due("place " + place + " of kind " + kind + " is told", points.code(3, 2), place);
                dues.due("place " + place + " of kind " + kind, Whole.found(points), found);
            }
            for (int target = 0; target < 24 && !has(namesTarget, kind); target++) {
                LoanPoints points = around(kind, 1, 8, target);
                dues.due("target " + target + " of kind " + kind + " is told", points.code(3, 3), target);
                dues.due("target " + target + " of kind " + kind, Whole.found(points), found);
            }
        }
        dues.sentence("MOVE: x becomes what the VARIABLE of p is: its PATH does nothing");
        for (int path = 0; path < 6; path++) {
            dues.due("a move of path " + path, Whole.found(around(MOVE, 3, 6 + path, 0)), Whole.found(around(MOVE, 3, 6, 0)));
        }
    }

    private static boolean has(int[] kinds, int kind) {
        for (int k : kinds) {
            if (k == kind) {
                return true;
            }
        }
        return false;
    }

    private static void plansThrough() {
        dues.sentence("PLAN: one of a p that goes THROUGH its VARIABLE is a TAKE in all that follows");
        for (int path = 0; path < 6; path++) {
            int[] code = {TAKE, 1, 0, 0, PLAN, 2, 10 + path, 0, SHARE, 3, 10 + path, 0, USE, 0, 23, 0, USE, 0, 10 + path, 0, USE, 0, 23, 0};
            LoanPoints plan = Dues.program(code);
            code[4] = TAKE;
            LoanPoints take = Dues.program(code);
            boolean through = path >= 3;
            dues.due("a plan of path " + path + " is told as it is", plan.code(1, 0), PLAN);
            dues.due("a plan of path " + path + " is found as a take", Whole.found(plan).equals(Whole.found(take)) ? 1 : 0, through ? 1 : 0);
            dues.due("a plan of path " + path + " is active", plan.active(4), through ? 0 : Dues.bits(1));
            dues.due("a plan of path " + path + " is soft", plan.soft() & Dues.bits(1), Dues.bits(1));
        }
    }

    private static void movesToItself() {
        dues.sentence("MOVE: if it is x itself, nothing changes");
        for (int path = 0; path < 6; path++) {
            LoanPoints x = Dues.program(SHARE, 1, 0, 0, MOVE, 1, 10 + path, 0, USE, 0, 13, 0, MOVE, 7, 70 + path, 0, SKIP, 0, 0, 0);
            dues.due("what it may be", x.holds(2, 1), Dues.bits(0));
            dues.due("a value stays one", x.holds(4, 7), VALUE);
            dues.due("errors", x.errors(), 0);
            dues.due("a run", x.run(0, 60, 0), -1);
            dues.due("it is read", x.live(1), Dues.bits(1, 2));
            dues.due("bears", x.bears(0), Dues.bits(1));
        }
        dues.sentence("MOVE: that one becomes a plain value");
        LoanPoints y = Dues.program(SHARE, 1, 0, 0, MOVE, 7, 15, 0, USE, 0, 73, 0, USE, 0, 13, 0);
        dues.due("what x may be", y.holds(2, 7), Dues.bits(0));
        dues.due("what the other may be", y.holds(2, 1), VALUE);
        dues.due("a run", y.run(0, 60, 0), 3);
        // the whole variable is accessed for writing all the same: a loan of it does not outlast a move to itself
        LoanPoints z = Dues.program(SHARE, 1, 0, 0, MOVE, 0, 0, 0, USE, 0, 13, 0);
        dues.due("a clash", z.error(0, 0), 1);
        dues.due("a run is bad", z.run(0, 60, 1), 2);
    }

    private static void jumps() {
        dues.sentence("MAYBE: the next POINT, or TARGET");
        for (int target = 0; target < 24; target++) {
            LoanPoints x = Dues.program(SKIP, 0, 0, 0, MAYBE, 0, 0, target, SKIP, 0, 0, 0);
            dues.due("next of a maybe to " + target, x.next(1), Dues.bits(2) | (target < 3 ? Dues.bits(target) : 0));
            dues.due("a run by it", x.run(1, 4, 2), target == 0 ? 4 : target == 1 ? 4 : target == 2 ? 3 : 2);
            dues.due("a run past it", x.run(0, 4, 2), 3);
        }
        dues.sentence("GO: TARGET");
        for (int target = 0; target < 24; target++) {
            LoanPoints x = Dues.program(SKIP, 0, 0, 0, GO, 0, 0, target, SKIP, 0, 0, 0);
            dues.due("next of a go to " + target, x.next(1), target < 3 ? Dues.bits(target) : 0);
            dues.due("a run by it", x.run(0, 4, 2), target < 2 ? 4 : target == 2 ? 3 : 2);
        }
        dues.sentence("9 STOP");
        LoanPoints y = Dues.program(SKIP, 0, 0, 0, STOP, 0, 0, 2, SKIP, 0, 0, 0);
        dues.due("next of a stop", y.next(1), 0);
        dues.due("a run", y.run(-1, 300, 2), 2);
    }

    private static void ends() {
        dues.sentence("a POINT at which there is no STATEMENT ends the program");
        for (int size = 1; size <= 24; size++) {
            LoanPoints x = new LoanPoints();
            for (int p = 0; p < size - 1; p++) {
                x.add(SKIP, 0, 0, 0);
            }
            x.add(MAYBE, 0, 0, Math.min(size, 23));
            // with 24 statements the last has no target behind it: it is next to itself
            int own = size == 24 ? Dues.bits(23) : 0;
            dues.due("next of the last of " + size, x.next(size - 1), own);
            dues.due("next of the last but one", size > 1 ? x.next(size - 2) : 1 << size - 1, 1 << size - 1);
            dues.due("a run of " + size, x.run(0, 300, 2), size);
            dues.due("a run by the target of the last", x.run(-1, 100, 2), size == 24 ? 100 : size);
        }
        LoanPoints y = Dues.program(SHARE, 1, 0, 0, GO, 0, 0, 2);
        dues.due("a go to no statement", y.next(1), 0);
        y.add(USE, 0, 9, 0);
        dues.due("which is there now", y.next(1), Dues.bits(2));
        dues.due("and read", y.live(1), Dues.bits(1, 2));
        y.back();
        dues.due("and gone again", y.next(1), 0);
        dues.due("and not read", y.live(1), 0);
    }

    private static void reached() {
        dues.sentence("REACHED are POINT 0, if there is any");
        LoanPoints x = new LoanPoints();
        dues.due("of none", x.reached(), 0);
        dues.due("how many of none", x.count(1), 0);
        x.add(STOP, 0, 0, 0);
        dues.due("of one", x.reached(), 1);
        dues.due("how many of one", x.count(1), 1);
        x.back();
        dues.due("of none again", x.reached(), 0);
        dues.sentence("and all that are next to one that is REACHED");
        // from 0 to the last and step by step back to 1, which the stop at 2 hides
        LoanPoints y = Dues.program(GO, 0, 0, 23, SKIP, 0, 0, 0, STOP, 0, 0, 0);
        for (int p = 3; p < 24; p++) {
            y.add(GO, 0, 0, p == 3 ? 1 : p - 1);
        }
        dues.due("backward", y.reached(), 0xffffff);
        y.alter(3, GO, 0, 0, 3);
        dues.due("but the two", y.reached(), 0xfffff9);
        dues.due("how many", y.count(1), 22);
    }

    private static void unreached() {
        dues.sentence("Others do nothing, make no LOANS, no ERRORS");
        int here = Dues.bits(0, 1, 4, 5, 6);
        int[] skip = {TAKE, 1, 0, 0, GO, 0, 0, 4, SKIP, 0, 0, 0, SKIP, 0, 0, 0, SHARE, 2, 13, 0, USE, 0, 23, 0, USE, 0, 13, 0};
        String found = Whole.foundAt(Dues.program(skip), here);
        for (int kind = 0; kind <= 9; kind++) {
            for (int place : new int[] {0, 1, 10, 13, 20, 24, 33}) {
                int[] code = skip.clone();
                System.arraycopy(new int[] {kind, 2, place, 4, kind, 1, place, 0}, 0, code, 8, 8);
                LoanPoints x = Dues.program(code);
                String call = "kinds " + kind + " of " + place + ", not reached";
                dues.due(call, Whole.foundAt(x, here), found);
                dues.due(call + ": runs", Whole.runs(x), Whole.runs(Dues.program(skip)));
                for (int v = 0; v < 8; v++) {
                    dues.due(call + ": holds", x.holds(2, v) | x.holds(3, v), 0);
                }
                dues.due(call + ": scope and active", x.scope(2) | x.scope(3) | x.active(2) | x.active(3), 0);
                dues.due(call + ": bears", x.bears(2), -3);
            }
        }
    }

    private static void readsFirst() {
        dues.sentence("A STATEMENT reads first, then writes");
        LoanPoints x = Dues.program(TAKE, 1, 0, 0, TAKE, 1, 13, 0, USE, 0, 13, 0);
        dues.due("x is read by its own loan", x.live(1), Dues.bits(1, 2));
        x = Dues.program(SKIP, 0, 0, 0, MOVE, 2, 10, 0, MOVE, 1, 20, 0, SKIP, 0, 0, 0);
        dues.due("what a move reads and writes", x.live(1), Dues.bits(0, 1));
        dues.due("what it writes, and the next reads", x.live(2), Dues.bits(2));
        x = Dues.program(TAKE, 1, 0, 0, TAKE, 2, 13, 0, TAKE, 2, 23, 0, SET, 0, 23, 0, SET, 0, 13, 0);
        dues.due("a run through what x was", x.run(0, 60, 0), -1);
    }

    private static void live() {
        dues.sentence("A VARIABLE is LIVE at a POINT, if its STATEMENT READS it, or does not WRITE it, and it is LIVE at any that is next");
        // 1 is read at 1 alone: the loop has it live at 3 too, not at 4
        LoanPoints x = Dues.program(SKIP, 0, 0, 0, USE, 0, 10, 0, SKIP, 0, 0, 0, MAYBE, 0, 0, 1, SKIP, 0, 0, 0);
        dues.due("by a loop", x.live(1), Dues.bits(0, 1, 2, 3));
        x.alter(2, SET, 0, Dues.place(12), 0);
        dues.due("not past a write", x.live(1), Dues.bits(0, 1, 3));
        x.alter(3, STOP, 0, 0, 1);
        dues.due("not past a stop", x.live(1), Dues.bits(0, 1));
        x = Dues.program(SKIP, 0, 0, 0, SKIP, 0, 0, 0, MAYBE, 0, 0, 23, STOP, 0, 0, 0);
        dues.due("of none that is read", x.live(0), 0);
        for (int p = 4; p < 23; p++) {
            x.add(STOP, 0, 0, 0);
        }
        x.add(USE, 0, 47, 0);
        dues.due("at the last of 24", x.live(7), Dues.bits(0, 1, 2, 23));
        LoanPoints ring = Dues.program(SKIP, 0, 0, 0, GO, 0, 0, 0);
        for (int v = 0; v < 8; v++) {
            dues.due("not by a ring in which none reads it", ring.live(v), 0);
            dues.due("nor a region", ring.region(v), 0);
        }
        dues.sentence("live: POINTS (all that have a STATEMENT)");
        x.alter(0, STOP, 0, 0, 0);
        dues.due("where it is not reached", x.live(7), Dues.bits(1, 2, 23));
        dues.due("and what is reached", x.region(7), 0);
    }

    private static void regions() {
        dues.sentence("REGIONS of VARIABLES are the least sets of POINTS");
        LoanPoints x = Dues.program(TAKE, 1, 0, 0, MOVE, 2, 10, 0, MOVE, 3, 20, 0, MOVE, 4, 30, 0, MOVE, 5, 40, 0, MOVE, 6, 50, 0, MOVE, 7, 60, 0,
            SKIP, 0, 0, 0, USE, 0, 70, 0, SKIP, 0, 0, 0);
        for (int v = 1; v <= 7; v++) {
            int from = 0;
            for (int p = v; p <= 8; p++) {
                from |= 1 << p;
            }
            dues.due("by moves, of " + v, x.region(v), from);
        }
        dues.due("of one that hands nothing on", x.region(0), 0);
        x = Dues.program(MOVE, 2, 10, 0, USE, 0, 20, 0);
        dues.due("by a move at 0", x.region(1), Dues.bits(0, 1));
        x = Dues.program(SHARE, 2, 13, 0, SKIP, 0, 0, 0, USE, 0, 20, 0);
        dues.due("by a loan at 0", x.region(1), Dues.bits(0, 1, 2));
        dues.sentence("for each MOVE that of the VARIABLE of p all that that of x has, not the other way");
        x = Dues.program(SET, 0, 10, 0, MOVE, 2, 10, 0, SET, 0, 10, 0, USE, 0, 10, 0, USE, 0, 20, 0);
        dues.due("of p's", x.region(1), Dues.bits(1, 2, 3, 4));
        dues.due("of x", x.region(2), Dues.bits(2, 3, 4));
        dues.sentence("for each SHARE, TAKE, PLAN of p that goes THROUGH a VARIABLE that one's all that that of x has");
        for (int kind = SHARE; kind <= PLAN; kind++) {
            for (int path = 0; path < 6; path++) {
                x = Dues.program(TAKE, 1, 0, 0, kind, 2, 10 + path, 0, SKIP, 0, 0, 0, USE, 0, 20, 0);
                dues.due("kind " + kind + " of path " + path, x.region(1), path < 3 ? 0 : Dues.bits(1, 2, 3));
            }
        }
    }

    private static void holds() {
        dues.sentence("all are VALUES ahead of POINT 0");
        LoanPoints x = new LoanPoints();
        x.add(GO, 0, 0, 22);
        for (int p = 1; p < 22; p++) {
            x.add(SKIP, 0, 0, 0);
        }
        x.add(SHARE, 7, 0, 0);
        x.add(GO, 0, 0, 0);
        for (int v = 0; v < 7; v++) {
            dues.due("of " + v, x.holds(0, v), VALUE);
        }
        dues.sentence("ahead of a POINT it is all that it may be behind any that is ahead of it");
        dues.due("ahead of 0, by the last", x.holds(0, 7), VALUE | Dues.bits(22));
        dues.due("ahead of the loan", x.holds(22, 7), VALUE | Dues.bits(22));
        dues.due("behind it", x.holds(23, 7), Dues.bits(22));
        dues.sentence("LOANS as bits, bit 24 a VALUE (none at a POINT that is not REACHED)");
        dues.due("not reached", x.holds(21, 0), 0);
        dues.due("not reached", x.holds(1, 7), 0);
        dues.sentence("by SET of what does not go THROUGH it its VARIABLE is a VALUE alone");
        for (int path = 0; path < 6; path++) {
            x = Dues.program(TAKE, 1, 0, 0, SET, 0, 10 + path, 0, SKIP, 0, 0, 0);
            dues.due("a set of path " + path, x.holds(2, 1), path < 3 ? VALUE : Dues.bits(0));
        }
    }

    private static void steps() {
        dues.sentence("IN SCOPE ahead of a POINT, if there is a way to it from the POINT of the LOAN (by one step at least)");
        LoanPoints x = Dues.program(TAKE, 1, 0, 0, USE, 0, 13, 0);
        dues.due("not ahead of the loan itself", x.scope(0), 0);
        dues.due("ahead of the next", x.scope(1), Dues.bits(0));
        x = Dues.program(TAKE, 1, 0, 0, MAYBE, 0, 0, 0, USE, 0, 13, 0);
        dues.due("not ahead of a loan that x does not outlive", x.scope(0), 0);
        // by the move x's region has the loan's own point
        x = Dues.program(TAKE, 1, 0, 0, USE, 0, 23, 0, MOVE, 2, 10, 0, GO, 0, 0, 0);
        dues.due("ahead of the loan itself, by a way round", x.scope(0), Dues.bits(0));
        dues.sentence("each POINT behind the first one is in the REGION of its x: the last one too");
        x = Dues.program(TAKE, 1, 0, 0, SKIP, 0, 0, 0, USE, 0, 13, 0, SKIP, 0, 0, 0);
        dues.due("within", x.scope(1), Dues.bits(0));
        dues.due("its last point", x.scope(2), Dues.bits(0));
        dues.due("behind it", x.scope(3), 0);
        // 1 is set at 1 and lives again at 2: no way past 1 is in the region
        x = Dues.program(TAKE, 1, 0, 0, SET, 0, 10, 0, USE, 0, 10, 0);
        dues.due("a gap in the region", x.scope(1), 0);
        dues.due("past the gap", x.scope(2), 0);
    }

    private static void kills() {
        dues.sentence("no STATEMENT between the first one and the last one KILLS it: none that WRITES the VARIABLE of its p KILLS it, but where p goes THROUGH that");
        int[][] writers = {{SET, 0, 10}, {SET, 0, 11}, {SET, 0, 12}, {MOVE, 5, 10}, {MOVE, 5, 13}, {MOVE, 1, 50}, {SHARE, 1, 50}, {TAKE, 1, 50}, {PLAN, 1, 50}, {MOVE, 1, 10}};
        int[][] others = {{SKIP, 1, 10}, {USE, 1, 10}, {USE, 1, 13}, {SET, 1, 13}, {SET, 0, 50}, {SHARE, 5, 13}, {MOVE, 5, 60}, {SHARE, 5, 10}};
        for (int path = 0; path < 6; path++) {
            for (int[] w : writers) {
                LoanPoints x = Dues.program(TAKE, 1, 0, 0, SHARE, 2, 10 + path, 0, w[0], w[1], w[2], 0, USE, 0, 23, 0);
                String call = "kind " + w[0] + " of " + w[2] + " and a loan of path " + path;
                dues.due(call + ": ahead of it", x.scope(2) & Dues.bits(1), Dues.bits(1));
                dues.due(call + ": behind it", x.scope(3) & Dues.bits(1), path < 3 ? Dues.bits(1) : 0);
            }
            for (int[] o : others) {
                LoanPoints x = Dues.program(TAKE, 1, 0, 0, SHARE, 2, 10 + path, 0, o[0], o[1], o[2], 0, USE, 0, 23, 0);
                dues.due("kind " + o[0] + " of " + o[2] + " and a loan of path " + path, x.scope(3) & Dues.bits(1), Dues.bits(1));
            }
        }
    }

    private static void killsAll() {
        dues.sentence("a STATEMENT KILLS each LOAN whose p goes THROUGH what it WRITES");
        LoanPoints x = Dues.program(TAKE, 1, 0, 0, SHARE, 2, 13, 0, SHARE, 3, 14, 0, SHARE, 4, 15, 0, SHARE, 5, 63, 0, SET, 0, 10, 0,
            USE, 0, 20, 0, USE, 0, 30, 0, USE, 0, 40, 0, USE, 0, 50, 0);
        dues.due("ahead of it", x.scope(5), Dues.bits(0, 1, 2, 3, 4));
        dues.due("behind it", x.scope(6), Dues.bits(0, 4));
        x.alter(5, MOVE, 1, Dues.place(60), 0);
        dues.due("a move writes two", x.scope(6), Dues.bits(0));
        x.alter(5, SKIP, 1, Dues.place(60), 0);
        dues.due("a skip none", x.scope(6), Dues.bits(0, 1, 2, 3, 4));
    }

    private static void ownLoans() {
        dues.sentence("A LOAN whose p goes THROUGH its own x is never IN SCOPE");
        for (int kind = SHARE; kind <= PLAN; kind++) {
            for (int path = 0; path < 6; path++) {
                LoanPoints x = Dues.program(TAKE, 1, 0, 0, kind, 1, 10 + path, 0, USE, 0, 13, 0, USE, 0, 13, 0);
                String call = "kind " + kind + " of path " + path;
                int own = path < 3 ? Dues.bits(1) : 0;
                dues.due(call + " is a loan", x.loans(), Dues.bits(0, 1));
                dues.due(call + ": scope", x.scope(2) & Dues.bits(1), own);
                dues.due(call + ": scope behind", x.scope(3) & Dues.bits(1), own);
                dues.due(call + ": what x may be", x.holds(2, 1), Dues.bits(1));
                // the way round to itself, in the region of x all along
                LoanPoints y = Dues.program(MAYBE, 0, 0, 5, kind, 1, 10 + path, 0, USE, 0, 20, 0, MOVE, 2, 10, 0, GO, 0, 0, 0, USE, 0, 20, 0);
                dues.due(call + ": in a loop", y.scope(1), own);
            }
        }
    }

    private static void active() {
        dues.sentence("ACTIVE, if there is such a way on which a STATEMENT between the first one and the last one GOES THROUGH a VARIABLE that may be that LOAN there");
        LoanPoints x = Dues.program(PLAN, 1, 0, 0, USE, 0, 13, 0, USE, 0, 13, 0, USE, 0, 13, 0, SKIP, 0, 0, 0);
        dues.due("ahead of the plan", x.active(0), 0);
        dues.due("ahead of the one that goes through it", x.active(1), 0);
        dues.due("behind that", x.active(2), Dues.bits(0));
        dues.due("ahead of the last", x.active(3), Dues.bits(0));
        dues.due("behind its scope", x.active(4), 0);
        int[][] goers = {{USE, 0, 13}, {USE, 0, 14}, {USE, 0, 15}, {SET, 0, 13}, {SET, 0, 15}, {SHARE, 5, 13}, {TAKE, 5, 14}, {PLAN, 5, 15}};
        int[][] others = {{SKIP, 0, 13}, {USE, 0, 10}, {USE, 0, 12}, {MOVE, 5, 13}, {MAYBE, 0, 13}, {SHARE, 5, 11}, {USE, 1, 23}};
        for (int[] g : goers) {
            x = Dues.program(PLAN, 1, 0, 0, g[0], g[1], g[2], 2, USE, 0, 13, 0);
            dues.due("kind " + g[0] + " of " + g[2], x.active(2), Dues.bits(0));
        }
        for (int[] o : others) {
            x = Dues.program(PLAN, 1, 0, 0, o[0], o[1], o[2], 2, USE, 0, 13, 0, USE, 0, 53, 0);
            dues.due("kind " + o[0] + " of " + o[2], x.active(2), 0);
        }
        x = Dues.program(MAYBE, 0, 0, 2, PLAN, 1, 0, 0, USE, 0, 13, 0, USE, 0, 13, 0);
        dues.due("where it may be a value too", x.active(3), Dues.bits(1));
        dues.sentence("active: LOANS of PLAN");
        for (int kind : new int[] {SHARE, TAKE}) {
            x = Dues.program(kind, 1, 0, 0, USE, 0, 13, 0, USE, 0, 13, 0);
            dues.due("kind " + kind, x.active(2), 0);
        }
    }
}
