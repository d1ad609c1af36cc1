/** Promises 8 to 16: next, reached, live, region, holds, loans, scope, active, bears. */
public final class FoundTest {
    private static final Dues dues = new Dues("FoundTest");
    private static final int SKIP = 0, USE = 1, SET = 2, SHARE = 3, TAKE = 4, PLAN = 5, MOVE = 6, MAYBE = 7, GO = 8, STOP = 9;
    private static final int BAD = -2, NOT = -3, VALUE = 1 << 24;

    public static void main(String[] args) {
        nextAndReached();
        live();
        region();
        holds();
        loans();
        scope();
        active();
        bears();
        wrongNumbers();
        dues.end();
    }

    private static void nextAndReached() {
        LoanPoints x = Dues.program(MAYBE, 0, 0, 3, GO, 0, 0, 0, STOP, 0, 0, 0, MAYBE, 0, 0, 4, GO, 0, 0, 23, SKIP, 0, 0, 0);
        dues.due("next of a maybe", x.next(0), Dues.bits(1, 3));
        dues.due("next of a go", x.next(1), Dues.bits(0));
        dues.due("next of a stop", x.next(2), 0);
        dues.due("next of a maybe to the next", x.next(3), Dues.bits(4));
        dues.due("next of a go to no statement", x.next(4), 0);
        dues.due("next of the last", x.next(5), 0);
        dues.due("next of none", x.next(6), BAD);
        dues.due("next of -1", x.next(-1), BAD);
        dues.due("reached", x.reached(), Dues.bits(0, 1, 3, 4));
        dues.due("how many are reached", x.count(1), 4);
        x.alter(4, GO, 0, 0, 5);
        dues.due("reached", x.reached(), Dues.bits(0, 1, 3, 4, 5));
        dues.due("reached of none", new LoanPoints().reached(), 0);
        LoanPoints full = new LoanPoints();
        for (int p = 0; p < 24; p++) {
            full.add(MAYBE, 0, 0, 23);
        }
        dues.due("next of the last of 24", full.next(23), Dues.bits(23));
        dues.due("reached of 24", full.reached(), 0xffffff);
    }

    private static void live() {
        LoanPoints x = Dues.program(SHARE, 1, 0, 0, MAYBE, 0, 0, 3, STOP, 0, 0, 0, USE, 0, 13, 0, GO, 0, 0, 1);
        dues.due("live of a reference", x.live(1), Dues.bits(1, 3, 4));
        dues.due("live of what is lent", x.live(0), 0);
        x = Dues.program(STOP, 0, 0, 0, USE, 0, 2, 0);
        dues.due("live where it is not reached", x.live(0), Dues.bits(1));
        dues.due("region has what is reached alone", x.region(0), 0);
        x = Dues.program(MOVE, 2, 20, 0);
        dues.due("live of what is moved to itself", x.live(2), Dues.bits(0));
        x = Dues.program(SKIP, 0, 0, 0, SET, 0, 1, 0, USE, 0, 2, 0);
        dues.due("a set of a part writes", x.live(0), Dues.bits(2));
        x = Dues.program(SKIP, 0, 0, 0, SET, 0, 13, 0);
        dues.due("a set through reads", x.live(1), Dues.bits(0, 1));
        x = Dues.program(SKIP, 0, 0, 0, MOVE, 1, 20, 0, USE, 0, 10, 0, USE, 0, 20, 0);
        dues.due("a move writes x", x.live(1), Dues.bits(2));
        dues.due("a move reads and writes the other", x.live(2), Dues.bits(0, 1, 2, 3));
        x = Dues.program(SKIP, 7, 70, 0, GO, 7, 70, 0);
        dues.due("a skip and a go read nothing", x.live(7), 0);
    }

    private static void region() {
        LoanPoints x = Dues.program(TAKE, 1, 0, 0, MOVE, 2, 10, 0, TAKE, 3, 24, 0, USE, 0, 33, 0);
        dues.due("region 3", x.region(3), Dues.bits(3));
        dues.due("region 2", x.region(2), Dues.bits(2, 3));
        dues.due("region 1", x.region(1), Dues.bits(1, 2, 3));
        dues.due("region 0", x.region(0), 0);
        x = Dues.program(USE, 0, 20, 0, GO, 0, 0, 3, MOVE, 2, 10, 0, SKIP, 0, 0, 0);
        dues.due("a move that is not reached asks for nothing", x.region(1), 0);
        dues.due("though it is live there", x.live(1), Dues.bits(2));
        dues.due("region of the other", x.region(2), Dues.bits(0));
        x = Dues.program(SHARE, 1, 20, 0, USE, 0, 13, 0);
        dues.due("a loan of the whole asks nothing of its variable", x.region(2), 0);
    }

    private static void holds() {
        LoanPoints x = Dues.program(MAYBE, 0, 0, 3, SHARE, 1, 0, 0, GO, 0, 0, 4, TAKE, 1, 1, 0,
            MOVE, 2, 10, 0, SET, 0, 21, 0, SKIP, 0, 0, 0, STOP, 0, 0, 0, SKIP, 0, 0, 0);
        dues.due("a value at first", x.holds(0, 7), VALUE);
        dues.due("ahead of the loan", x.holds(1, 1), VALUE);
        dues.due("behind the loan", x.holds(2, 1), Dues.bits(1));
        dues.due("where ways meet", x.holds(4, 1), Dues.bits(1, 3));
        dues.due("moved to", x.holds(5, 2), Dues.bits(1, 3));
        dues.due("moved from", x.holds(5, 1), VALUE);
        dues.due("a part is set", x.holds(6, 2), VALUE);
        dues.due("not reached", x.holds(8, 0), 0);
        x = Dues.program(SHARE, 1, 0, 0, MAYBE, 0, 0, 0);
        dues.due("ahead of 0 by a loop", x.holds(0, 1), VALUE | 1);
        x = Dues.program(SHARE, 1, 0, 0, MOVE, 1, 13, 0, SKIP, 0, 0, 0);
        dues.due("moved to itself", x.holds(2, 1), 1);
        x = Dues.program(TAKE, 1, 0, 0, SET, 0, 13, 0, TAKE, 2, 13, 0, SKIP, 0, 0, 0);
        dues.due("set through", x.holds(2, 1), 1);
        dues.due("borrowed again", x.holds(3, 2), Dues.bits(2));
        dues.due("what it was borrowed through", x.holds(3, 1), Dues.bits(0));
        // each pass of the loop hands the loan to one variable more
        x = Dues.program(SHARE, 1, 0, 0, MOVE, 5, 40, 0, MOVE, 4, 30, 0, MOVE, 3, 20, 0, MOVE, 2, 10, 0, MAYBE, 0, 0, 1);
        dues.due("by four rounds", x.holds(1, 5), VALUE | 1);
    }

    private static void loans() {
        LoanPoints x = Dues.program(SHARE, 1, 0, 0, PLAN, 2, 0, 0, TAKE, 3, 0, 0, USE, 4, 0, 0, MOVE, 5, 0, 0, STOP, 0, 0, 0, TAKE, 6, 0, 0);
        dues.due("loans", x.loans(), Dues.bits(0, 1, 2));
        dues.due("how many loans", x.count(2), 3);
    }

    private static void scope() {
        LoanPoints x = Dues.program(TAKE, 1, 0, 0, TAKE, 2, 13, 0, TAKE, 1, 30, 0, USE, 0, 23, 0, USE, 0, 13, 0, SKIP, 0, 0, 0);
        dues.due("region", x.region(1), Dues.bits(1, 2, 3, 4));
        dues.due("scope 0", x.scope(0), 0);
        dues.due("scope 1", x.scope(1), Dues.bits(0));
        dues.due("scope 2", x.scope(2), Dues.bits(0, 1));
        dues.due("scope 3, a loan through what is written is killed", x.scope(3), Dues.bits(0, 2));
        dues.due("scope 4", x.scope(4), Dues.bits(0, 2));
        dues.due("scope 5, behind the region", x.scope(5), 0);
        dues.due("no errors", x.errors(), 0);
        x = Dues.program(TAKE, 1, 0, 0, TAKE, 1, 13, 0, USE, 0, 13, 0);
        dues.due("a loan through its own x", x.scope(2), Dues.bits(0));
        x = Dues.program(TAKE, 1, 0, 0, SET, 0, 0, 0, USE, 0, 13, 0);
        dues.due("a loan of the whole is not killed", x.scope(2), Dues.bits(0));
        x = Dues.program(SHARE, 1, 0, 0, USE, 0, 13, 0, MAYBE, 0, 0, 1, SKIP, 0, 0, 0);
        dues.due("scope ahead of a loop's end", x.scope(2), Dues.bits(0));
        dues.due("scope behind the loop", x.scope(3), 0);
        // the way must stay in the region: point 2 writes x, so the older loan does not get past it
        x = Dues.program(SHARE, 1, 0, 0, SKIP, 0, 0, 0, SHARE, 1, 1, 0, USE, 0, 13, 0);
        dues.due("scope of a loan that is not used", x.scope(1), 0);
        dues.due("scope of the newer loan", x.scope(3), Dues.bits(2));
    }

    private static void active() {
        LoanPoints x = Dues.program(PLAN, 1, 0, 0, MOVE, 2, 10, 0, USE, 0, 23, 0, USE, 0, 23, 0);
        dues.due("active 1", x.active(1), 0);
        dues.due("active 2", x.active(2), 0);
        dues.due("active 3", x.active(3), Dues.bits(0));
        x = Dues.program(TAKE, 1, 0, 0, PLAN, 2, 13, 0, USE, 0, 23, 0, USE, 0, 23, 0);
        dues.due("a plan through a variable is a take", x.active(3), 0);
        dues.due("its scope", x.scope(3), Dues.bits(0, 1));
        x = Dues.program(PLAN, 1, 0, 0, MAYBE, 0, 0, 3, USE, 0, 13, 0, USE, 0, 0, 0, USE, 0, 13, 0);
        dues.due("active by one way", x.active(3), Dues.bits(0));
        x = Dues.program(PLAN, 1, 0, 0, USE, 0, 10, 0, USE, 0, 10, 0);
        dues.due("a use of the reference itself", x.active(2), 0);
        x = Dues.program(PLAN, 1, 0, 0, USE, 0, 13, 0, SKIP, 0, 0, 0);
        dues.due("not active where it is not in scope", x.active(2), 0);
    }

    private static void bears() {
        LoanPoints x = Dues.program(TAKE, 1, 0, 0, MOVE, 2, 10, 0, SHARE, 3, 24, 0, STOP, 0, 0, 0, MOVE, 5, 30, 0, SHARE, 6, 0, 0);
        dues.due("bears of the first", x.bears(0), Dues.bits(1, 2, 3));
        dues.due("bears of the one borrowed again", x.bears(2), Dues.bits(3));
        dues.due("bears of a move", x.bears(1), NOT);
        dues.due("bears of a loan that is not reached", x.bears(5), NOT);
        x = Dues.program(SHARE, 1, 0, 0, SHARE, 2, 10, 0);
        dues.due("a loan of the reference itself", x.bears(0), Dues.bits(1));
        x = Dues.program(MOVE, 3, 20, 0, MOVE, 2, 10, 0, SHARE, 1, 0, 0);
        dues.due("whatever the order", x.bears(2), Dues.bits(1, 2, 3));
    }

    private static void wrongNumbers() {
        LoanPoints x = Dues.program(SHARE, 1, 0, 0);
        int[] noPoints = {-1, 1, 24, Integer.MAX_VALUE, Integer.MIN_VALUE};
        for (int p : noPoints) {
            dues.due("next " + p, x.next(p), BAD);
            dues.due("holds " + p, x.holds(p, 0), BAD);
            dues.due("scope " + p, x.scope(p), BAD);
            dues.due("active " + p, x.active(p), BAD);
            dues.due("bears " + p, x.bears(p), BAD);
        }
        int[] noVariables = {-1, 8, Integer.MAX_VALUE, Integer.MIN_VALUE};
        for (int v : noVariables) {
            dues.due("live " + v, x.live(v), BAD);
            dues.due("region " + v, x.region(v), BAD);
            dues.due("holds " + v, x.holds(0, v), BAD);
        }
    }
}
