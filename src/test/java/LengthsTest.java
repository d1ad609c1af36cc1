/** No statements, one, all 24 of them, and all 512 calls of an object. */
public final class LengthsTest {
    private static final Dues dues = new Dues("LengthsTest");
    private static final int SKIP = 0, USE = 1, SET = 2, SHARE = 3, TAKE = 4, PLAN = 5, MAYBE = 7, GO = 8;
    private static final int NONE = -1, BAD = -2, NOT = -3, FULL = -4, VALUE = 1 << 24;

    public static void main(String[] args) {
        newObject();
        noneAgain();
        one();
        countsUpAndDown();
        twentyFour();
        lastPoint();
        lastLoans();
        lastJumps();
        calls();
        dues.end();
    }

    private static void none(String call, LoanPoints x) {
        for (int what = 0; what <= 7; what++) {
            dues.due(call + ": count " + what, x.count(what), 0);
        }
        dues.due(call + ": reached", x.reached(), 0);
        dues.due(call + ": loans", x.loans(), 0);
        dues.due(call + ": errors", x.errors(), 0);
        dues.due(call + ": soft", x.soft(), 0);
        dues.due(call + ": mend 0", x.mend(0), NONE);
        dues.due(call + ": mend 1", x.mend(1), NONE);
        for (int v = 0; v < 8; v++) {
            dues.due(call + ": live", x.live(v), 0);
            dues.due(call + ": region", x.region(v), 0);
        }
        dues.due(call + ": code", x.code(0, 0), BAD);
        dues.due(call + ": next", x.next(0), BAD);
        dues.due(call + ": holds", x.holds(0, 0), BAD);
        dues.due(call + ": scope", x.scope(0), BAD);
        dues.due(call + ": active", x.active(0), BAD);
        dues.due(call + ": bears", x.bears(0), BAD);
        dues.due(call + ": error", x.error(0, 0), NONE);
        dues.due(call + ": witness", x.witness(0, NONE), NOT);
        dues.due(call + ": run 0", x.run(-1, 300, 0), NONE);
        dues.due(call + ": run 1", x.run(-1, 300, 1), NONE);
        dues.due(call + ": run 2", x.run(-1, 300, 2), 0);
        dues.due(call + ": back", x.back(), NOT);
        dues.due(call + ": clear", x.clear(), 0);
    }

    private static void newObject() {
        dues.sentence("No STATEMENTS; all SHEETS are LOST");
        LoanPoints x = new LoanPoints();
        none("new", x);
        dues.due("new: finding", x.count(8), 0);
        for (int s = 0; s < 4; s++) {
            dues.due("new: lose", x.lose(s), -11);
        }
        LoanPoints one = new LoanPoints();
        one.add(USE, 0, 3, 0);
        one.sheet(0, 0, 5);
        none("new, beside another", new LoanPoints());
        dues.due("the other", one.count(0), 1);
        dues.due("the constants", LoanPoints.NONE * 1000 + LoanPoints.BAD * 100 + LoanPoints.NOT * 10 + LoanPoints.FULL, -1234);
    }

    private static void noneAgain() {
        dues.sentence("back: The last STATEMENT is undone: how many are left; clear: All are undone: how many there were");
        LoanPoints x = Dues.program(TAKE, 1, 0, 0, USE, 0, 0, 0, USE, 0, 13, 0);
        x.digest();
        dues.due("back", x.back(), 2);
        dues.due("back", x.back(), 1);
        dues.due("back", x.back(), 0);
        none("undone one by one", x);
        LoanPoints y = Dues.program(TAKE, 1, 0, 0, USE, 0, 0, 0, USE, 0, 13, 0);
        y.digest();
        y.sheet(2, 2, 2);
        dues.due("clear", y.clear(), 3);
        none("cleared", y);
        dues.due("sheets stay", y.lose(2), 2);
        dues.due("digest of none", y.digest(), new LoanPoints().digest());
    }

    private static void one() {
        dues.sentence("one STATEMENT");
        LoanPoints x = new LoanPoints();
        dues.due("add", x.add(PLAN, 7, 0, 0), 1);
        dues.due("reached", x.reached(), 1);
        dues.due("loans", x.loans(), 1);
        dues.due("next", x.next(0), 0);
        dues.due("holds", x.holds(0, 7), VALUE);
        dues.due("scope", x.scope(0), 0);
        dues.due("active", x.active(0), 0);
        dues.due("bears", x.bears(0), Dues.bits(7));
        dues.due("mend", x.mend(0), 0);
        dues.due("soft", x.soft(), 1);
        dues.due("run", x.run(0, 300, 2), 1);
        dues.due("clear", x.clear(), 1);
    }

    private static void countsUpAndDown() {
        dues.sentence("A STATEMENT behind all others: how many; 24 at most");
        LoanPoints x = new LoanPoints();
        for (int n = 1; n <= 24; n++) {
            dues.due("add", x.add(n % 10, n % 8, n, n - 1), n);
            dues.due("count", x.count(0), n);
            dues.due("its kind", x.code(n - 1, 0), n % 10);
            dues.due("the first one's kind", x.code(0, 0), 1);
        }
        dues.due("one more", x.add(0, 0, 0, 0), FULL);
        dues.due("one more", x.add(0, 0, 0, 0), FULL);
        for (int n = 23; n >= 0; n--) {
            dues.due("back", x.back(), n);
            dues.due("count", x.count(0), n);
            dues.due("it is gone", x.code(n, 0), BAD);
            dues.due("the one ahead is not", n > 0 ? x.code(n - 1, 2) : 0, n);
        }
        dues.due("one more", x.back(), NOT);
        for (int n = 1; n <= 24; n++) {
            dues.due("add again", x.add(0, 0, 0, 0), n);
        }
        dues.due("one more", x.add(0, 0, 0, 0), FULL);
        dues.due("back", x.back(), 23);
        dues.due("add", x.add(9, 7, 47, 23), 24);
        dues.due("clear", x.clear(), 24);
        dues.due("add behind it", x.add(1, 0, 0, 0), 1);
    }

    /** Seven loans, all of them used at the end, and between them what clashes with them all. */
    private static void twentyFour() {
        dues.sentence("24 STATEMENTS");
        LoanPoints x = new LoanPoints();
        for (int v = 1; v <= 7; v++) {
            x.add(SHARE, v, 0, 0);
        }
        for (int p = 7; p < 17; p++) {
            x.add(SET, 0, 0, 0);
        }
        for (int v = 1; v <= 7; v++) {
            x.add(USE, 0, 6 * v + 3, 0);
        }
        dues.due("count", x.count(0), 24);
        dues.due("reached", x.reached(), 0xffffff);
        dues.due("how many are reached", x.count(1), 24);
        dues.due("loans", x.loans(), 0x7f);
        dues.due("errors", x.errors(), 70);
        for (int v = 1; v <= 7; v++) {
            int live = (1 << 17 + v) - (1 << v);
            dues.due("live of " + v, x.live(v), live);
            dues.due("region of " + v, x.region(v), live);
            dues.due("holds of " + v, x.holds(23, v), 1 << v - 1);
        }
        dues.due("scope of the first use", x.scope(17), 0x7f);
        dues.due("scope of the last", x.scope(23), 0x40);
        for (int i = 0; i < 70; i++) {
            dues.due("point of error " + i, x.error(i, 0), 7 + i / 7);
            dues.due("number of error " + i, x.error(i, 2), i % 7);
        }
        dues.due("error 70", x.error(70, 0), NONE);
        // from the loan to the last set, and on to the use of its own reference
        dues.due("the first loan's", x.witness(63, NONE), 18);
        dues.due("the last loan's", x.witness(69, NONE), 18);
        dues.due("it ends at the last use", x.witness(69, 17), 23);
        // without its use a loan clashes with none; without the loan the use would go through a value
        dues.due("mend", x.mend(0), 17);
        dues.due("mend: how many", x.mend(1), 60);
        dues.due("run", x.run(0, 300, 0), 17);
    }

    private static void lastPoint() {
        dues.sentence("POINT 23: a STATEMENT as any other");
        LoanPoints x = new LoanPoints();
        x.add(TAKE, 1, 0, 0);
        for (int p = 1; p < 23; p++) {
            x.add(SKIP, 0, 0, 0);
        }
        dues.due("add", x.add(SHARE, 0, 9, 23), 24);
        dues.due("code", x.code(23, 0) * 1000 + x.code(23, 1) * 100 + x.code(23, 2), 3009);
        dues.due("target", x.code(23, 3), 23);
        dues.due("next", x.next(22), Dues.bits(23));
        dues.due("next of it", x.next(23), 0);
        dues.due("live", x.live(1), 0xfffffe);
        dues.due("region", x.region(1), 0xfffffe);
        dues.due("holds", x.holds(23, 1), 1);
        dues.due("loans", x.loans(), Dues.bits(0, 23));
        dues.due("scope", x.scope(23), 1);
        dues.due("bears", x.bears(23), 1);
        dues.due("errors", x.errors(), 1);
        dues.due("error", x.error(0, 0), 23);
        dues.due("witness", x.witness(0, NONE), 24);
        dues.due("witness 23", x.witness(0, 23), 23);
        dues.due("run", x.run(0, 300, 2), 24);
        dues.due("alter", x.alter(23, PLAN, 2, 15, 0), 1);
        dues.due("code behind it", x.code(23, 0), PLAN);
        dues.due("error behind it", x.error(0, 1), 1);
        dues.due("number behind it", x.error(0, 2), 2);
        dues.due("mend behind it", x.mend(0), 23);
        dues.due("soft behind it", x.soft(), Dues.bits(0, 23));
        dues.due("back", x.back(), 23);
        dues.due("errors then", x.errors(), 0);
    }

    private static void lastLoans() {
        dues.sentence("LOANS, told by their POINTS: as late as they may clash");
        LoanPoints x = new LoanPoints();
        for (int p = 0; p < 20; p++) {
            x.add(SKIP, 0, 0, 0);
        }
        x.add(PLAN, 1, 0, 0);
        x.add(SHARE, 2, 0, 0);
        x.add(USE, 0, 9, 0);
        x.add(USE, 0, 15, 0);
        dues.due("errors", x.errors(), 1);
        dues.due("point", x.error(0, 0), 22);
        dues.due("number", x.error(0, 2), 21);
        x.alter(23, USE, 0, 9, 0);
        dues.due("active", x.active(23), Dues.bits(20));
        dues.due("no errors", x.errors(), 0);
        x.alter(22, SET, 0, 0, 0);
        dues.due("a clash with the plan", x.error(0, 2), 20);
        x.alter(22, TAKE, 2, 0, 0);
        x.alter(23, SHARE, 1, 15, 0);
        dues.due("loans", x.loans(), Dues.bits(20, 21, 22, 23));
    }

    private static void lastJumps() {
        dues.sentence("POINT 23: its TARGETS, from 0 to 23");
        for (int target = 0; target < 24; target++) {
            LoanPoints x = new LoanPoints();
            for (int p = 0; p < 22; p++) {
                x.add(SKIP, 0, 0, 0);
            }
            x.add(PLAN, 7, 0, 0);
            x.add(target % 2 == 0 ? GO : MAYBE, 0, 0, target);
            dues.due("next of 23 to " + target, x.next(23), 1 << target);
            dues.due("holds at the target", x.holds(target, 7), target == 23 ? Dues.bits(22) : VALUE | Dues.bits(22));
            dues.due("loan 22", x.loans(), Dues.bits(22));
        }
    }

    /** 512 calls: the last one answers as the first one would. */
    private static void calls() {
        dues.sentence("An object is used for at most 512 calls after it has been made");
        LoanPoints fresh = Dues.program(TAKE, 1, 0, 0, USE, 0, 0, 0, USE, 0, 13, 0);
        long want = fresh.digest();
        LoanPoints x = new LoanPoints();
        for (int call = 1; call <= 508; call++) {
            switch (call % 8) {
                case 0: x.sheet(call / 8 % 4, call % 3, 60); break;
                case 1: x.add(SHARE, call % 8, call % 48, call % 24); break;
                case 2: x.digest(); break;
                case 3: x.alter(0, PLAN, call % 8, call % 48, 0); break;
                case 4: x.run(call, 300, 0); break;
                case 5: x.mend(0); break;
                case 6: x.write(0); break;
                default: x.read(call / 8 % 4); break;
            }
        }
        dues.due("call 509", x.clear(), 24);
        dues.due("call 510", x.sheet(0, 0, 60), 60);
        dues.due("call 511", x.read(0), 15);
        dues.due("call 512", x.code(14, 0), 0);
        LoanPoints y = new LoanPoints();
        for (int call = 1; call <= 508; call++) {
            y.back();
        }
        dues.due("call 509", y.add(TAKE, 1, 0, 0), 1);
        dues.due("call 510", y.add(USE, 0, 0, 0), 2);
        dues.due("call 511", y.add(USE, 0, 9, 0), 3);
        dues.due("call 512", y.digest(), want);
    }
}
