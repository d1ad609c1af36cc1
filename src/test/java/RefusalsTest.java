import java.util.function.Supplier;
import java.util.function.ToIntFunction;

/**
 * Each refusal of each call; where two fit at once, the first that is told is the answer; and nothing has
 * changed behind it but, for a finding, count(8). Two objects are made alike, one of them refuses a call,
 * and all that they answer then must be alike.
 */
public final class RefusalsTest {
    private static final Dues dues = new Dues("RefusalsTest");
    private static final int NONE = -1, BAD = -2, NOT = -3, FULL = -4;
    private static final int LOST = -11, INDEX = -12, CAST = -13, STORE = -14, SIZE = -15;
    private static final int LEAST = Integer.MIN_VALUE, MOST = Integer.MAX_VALUE;
    private static final int USE = 1, SET = 2, SHARE = 3, TAKE = 4, MOVE = 6, STOP = 9;

    private static Supplier<LoanPoints> state;

    public static void main(String[] args) {
        state = RefusalsTest::some;
        inTheMiddle();
        state = RefusalsTest::asked;
        inTheMiddle();
        none();
        full();
        dues.end();
    }

    private static void inTheMiddle() {
        statements();
        found();
        errorsAndPlans();
        sheetAndLose();
        putAndGet();
        copy();
        readAndWrite();
    }

    /** Nine statements with an error of each kind, the last of them not reached; sheets: 5 bytes, no shorts, 60 ints, a lost one. */
    private static LoanPoints some() {
        LoanPoints x = Dues.program(TAKE, 1, 0, 0, USE, 0, 0, 0, SHARE, 2, 13, 0, SHARE, 3, 10, 0, SET, 0, 23, 0, MOVE, 4, 20, 0,
            USE, 0, 53, 0, STOP, 0, 0, 0, TAKE, 5, 0, 0);
        x.sheet(0, 0, 5);
        x.sheet(1, 1, 0);
        x.sheet(2, 2, 60);
        for (int i = 0; i < 5; i++) {
            x.put(0, 0, i, i - 2);
        }
        x.put(2, 2, 0, LEAST);
        x.put(2, 2, 59, MOST);
        x.copy(0, 0, 2, 0, 0);
        return x;
    }

    /** The same, when all has been asked: what is kept of the answers must not show. */
    private static LoanPoints asked() {
        LoanPoints x = some();
        x.digest();
        x.witness(0, 2);
        x.run(3, 300, 2);
        return x;
    }

    private static LoanPoints twentyFour() {
        LoanPoints x = new LoanPoints();
        for (int p = 0; p < 24; p++) {
            x.add(SHARE, p % 8, p * 2, p);
        }
        x.sheet(0, 2, 60);
        return x;
    }

    private static void is(String call, int want, ToIntFunction<LoanPoints> act) {
        boolean finding = want <= LOST && want >= SIZE;
        is(call, want, finding ? -10 - want : NONE, act);
    }

    /** Of a finding the number that count(8) tells then; NONE where it stays. */
    private static void is(String call, int want, int finding, ToIntFunction<LoanPoints> act) {
        LoanPoints x = state.get();
        LoanPoints y = state.get();
        dues.due(call, act.applyAsInt(x), want);
        dues.due(call + ", then count(8)", x.count(8), finding == NONE ? y.count(8) : finding);
        dues.due(call + ", then all", Whole.of(x), Whole.of(y));
    }

    private static void statements() {
        dues.sentence("Promise 2: BAD");
        is("add: kind -1", BAD, x -> x.add(-1, 0, 0, 0));
        is("add: kind 10", BAD, x -> x.add(10, 0, 0, 0));
        is("add: x -1", BAD, x -> x.add(1, -1, 0, 0));
        is("add: x 8", BAD, x -> x.add(1, 8, 0, 0));
        is("add: place -1", BAD, x -> x.add(1, 1, -1, 0));
        is("add: place 48", BAD, x -> x.add(1, 1, 48, 0));
        is("add: target -1", BAD, x -> x.add(1, 1, 1, -1));
        is("add: target 24", BAD, x -> x.add(1, 1, 1, 24));
        dues.sentence("Promise 3: BAD");
        is("alter: point -1", BAD, x -> x.alter(-1, 0, 0, 0, 0));
        is("alter: point 9", BAD, x -> x.alter(9, 0, 0, 0, 0));
        is("alter: kind -1", BAD, x -> x.alter(0, -1, 1, 1, 1));
        is("alter: kind 10", BAD, x -> x.alter(8, 10, 1, 1, 1));
        is("alter: x -1", BAD, x -> x.alter(0, 0, -1, 1, 1));
        is("alter: x 8", BAD, x -> x.alter(8, 0, 8, 1, 1));
        is("alter: place -1", BAD, x -> x.alter(0, 0, 1, -1, 1));
        is("alter: place 48", BAD, x -> x.alter(8, 0, 1, 48, 1));
        is("alter: target -1", BAD, x -> x.alter(0, 0, 1, 1, -1));
        is("alter: target 24", BAD, x -> x.alter(8, 0, 1, 1, 24));
        is("alter: all", BAD, x -> x.alter(LEAST, MOST, LEAST, MOST, LEAST));
        dues.sentence("Promise 6: BAD");
        is("code: point -1", BAD, x -> x.code(-1, 0));
        is("code: point 9", BAD, x -> x.code(9, 0));
        is("code: what -1", BAD, x -> x.code(0, -1));
        is("code: what 4", BAD, x -> x.code(8, 4));
        is("code: both", BAD, x -> x.code(9, 4));
    }

    private static void found() {
        dues.sentence("Promises 8, 10, 11, 12, 14, 15: BAD");
        for (int p : new int[] {-1, 9, 23, 24, LEAST, MOST}) {
            is("next " + p, BAD, x -> x.next(p));
            is("holds " + p, BAD, x -> x.holds(p, 0));
            is("scope " + p, BAD, x -> x.scope(p));
            is("active " + p, BAD, x -> x.active(p));
        }
        for (int v : new int[] {-1, 8, LEAST, MOST}) {
            is("live " + v, BAD, x -> x.live(v));
            is("region " + v, BAD, x -> x.region(v));
            is("holds 0, " + v, BAD, x -> x.holds(0, v));
            is("holds 9, " + v, BAD, x -> x.holds(9, v));
        }
        dues.sentence("Promise 16: BAD; NOT: it makes none");
        is("bears -1", BAD, x -> x.bears(-1));
        is("bears 9, where there is no statement and no loan", BAD, x -> x.bears(9));
        is("bears 1, a use", NOT, x -> x.bears(1));
        is("bears 5, a move", NOT, x -> x.bears(5));
        is("bears 8, a take that is not reached", NOT, x -> x.bears(8));
    }

    private static void errorsAndPlans() {
        dues.sentence("Promise 18: NONE. BAD");
        is("error -1", BAD, x -> x.error(-1, 0));
        is("error 1000", BAD, x -> x.error(1000, 0));
        is("error: what -1", BAD, x -> x.error(0, -1));
        is("error: what 3", BAD, x -> x.error(0, 3));
        is("error: what 3 where there is none", BAD, x -> x.error(999, 3));
        is("error: none", NONE, x -> x.error(999, 2));
        dues.sentence("Promise 19: BAD; NOT: it is no CLASH, or there is none");
        is("witness -1", BAD, x -> x.witness(-1, 0));
        is("witness 1000, where there is none", BAD, x -> x.witness(1000, 0));
        is("witness: j -2", BAD, x -> x.witness(0, -2));
        is("witness: j 60", BAD, x -> x.witness(0, 60));
        is("witness: j -2 of no clash", BAD, x -> x.witness(1, -2));
        is("witness: j 60 of no clash", BAD, x -> x.witness(1, 60));
        is("witness: j 60 of none", BAD, x -> x.witness(999, 60));
        is("witness of no clash, nested", NOT, x -> x.witness(1, NONE));
        is("witness of no clash, frozen", NOT, x -> x.witness(2, 0));
        is("witness of no clash, no reference", NOT, x -> x.witness(3, 59));
        is("witness of none", NOT, x -> x.witness(4, NONE));
        is("witness of none", NOT, x -> x.witness(999, 59));
        is("witness: behind its points", NONE, x -> x.witness(0, 59));
        dues.sentence("Promise 20: BAD");
        is("mend -1", BAD, x -> x.mend(-1));
        is("mend 2", BAD, x -> x.mend(2));
        dues.sentence("Promise 22: BAD");
        is("run: steps -1", BAD, x -> x.run(0, -1, 0));
        is("run: steps 301", BAD, x -> x.run(0, 301, 0));
        is("run: what -1", BAD, x -> x.run(0, 0, -1));
        is("run: what 3", BAD, x -> x.run(0, 300, 3));
        is("run: both", BAD, x -> x.run(0, 301, 3));
        dues.sentence("Promise 29: BAD");
        is("count -1", BAD, x -> x.count(-1));
        is("count 9", BAD, x -> x.count(9));
    }

    private static void sheetAndLose() {
        dues.sentence("Promise 23: BAD: SHEET, FORM, above 60; SIZE");
        is("sheet -1", BAD, x -> x.sheet(-1, 0, 1));
        is("sheet 4", BAD, x -> x.sheet(4, 0, 1));
        is("sheet: form -1", BAD, x -> x.sheet(0, -1, 1));
        is("sheet: form 3", BAD, x -> x.sheet(0, 3, 1));
        is("sheet: 61 items", BAD, x -> x.sheet(0, 0, 61));
        is("sheet: 61 items of a lost one", BAD, x -> x.sheet(3, 0, 61));
        is("sheet: size -1", SIZE, x -> x.sheet(0, 0, -1));
        is("sheet: size -1 of a lost one", SIZE, x -> x.sheet(3, 2, -1));
        is("sheet: the least size", SIZE, x -> x.sheet(1, 1, LEAST));
        is("sheet 4, size -1", BAD, x -> x.sheet(4, 0, -1));
        is("sheet -1, size -1", BAD, x -> x.sheet(-1, 0, -1));
        is("sheet: form 3, size -1", BAD, x -> x.sheet(0, 3, -1));
        is("sheet: form -1, size -1", BAD, x -> x.sheet(0, -1, -1));
        dues.sentence("Promise 24: BAD; NULL");
        is("lose -1", BAD, x -> x.lose(-1));
        is("lose 4", BAD, x -> x.lose(4));
        is("lose a lost one", LOST, x -> x.lose(3));
    }

    private static void putAndGet() {
        int[][] refused = {
            {-1, 0, 0, BAD}, {4, 0, 0, BAD}, {LEAST, 0, 0, BAD}, {0, -1, 0, BAD}, {0, 3, 0, BAD}, {0, MOST, 0, BAD},
            {4, 3, 9, BAD}, {3, 3, 0, BAD}, {3, -1, 0, BAD}, {4, 1, 9, BAD}, {-1, 0, -1, BAD}, {0, 3, 5, BAD}, {0, -1, -1, BAD},
            {3, 0, 0, LOST}, {3, 1, -1, LOST}, {3, 2, 60, LOST},
            {0, 1, 0, CAST}, {0, 2, 4, CAST}, {0, 1, 5, CAST}, {0, 2, -1, CAST}, {1, 0, 0, CAST}, {1, 2, 0, CAST}, {2, 0, 0, CAST}, {2, 1, 60, CAST},
            {0, 0, -1, INDEX}, {0, 0, 5, INDEX}, {1, 1, 0, INDEX}, {1, 1, -1, INDEX}, {2, 2, 60, INDEX}, {2, 2, -1, INDEX},
            {0, 0, MOST, INDEX}, {0, 0, LEAST, INDEX}, {2, 2, MOST, INDEX}, {2, 2, 256, INDEX}};
        dues.sentence("Promise 25: BAD; NULL; CAST; INDEX");
        for (int[] r : refused) {
            is("put " + r[0] + ", " + r[1] + ", " + r[2], r[3], x -> x.put(r[0], r[1], r[2], 77));
        }
        dues.sentence("Promise 26: BAD: the least int; so are NULL, CAST, INDEX (count() 8 tells)");
        for (int[] r : refused) {
            is("get " + r[0] + ", " + r[1] + ", " + r[2], LEAST, r[3] == BAD ? NONE : -10 - r[3], x -> x.get(r[0], r[1], r[2]));
        }
        dues.sentence("Promise 26: the least int may be an item too");
        is("get the least int", LEAST, NONE, x -> x.get(2, 2, 0));
    }

    private static void copy() {
        dues.sentence("Promise 27: BAD: the SHEETS; NULL: s, t; STORE; INDEX: below 0, not so many");
        int[][] refused = {
            {-1, 0, 0, 0, 1, BAD}, {4, 0, 0, 0, 1, BAD}, {0, 0, -1, 0, 1, BAD}, {0, 0, 4, 0, 1, BAD}, {4, 0, 4, 0, 0, BAD},
            {4, 0, 3, 0, 1, BAD}, {3, 0, 4, 0, 1, BAD}, {-1, 0, 3, 0, 0, BAD}, {3, 0, -1, 0, 0, BAD}, {4, -1, 0, -1, -1, BAD}, {0, 9, 4, 9, 9, BAD},
            {3, 0, 0, 0, 1, LOST}, {0, 0, 3, 0, 1, LOST}, {3, 0, 3, 0, 0, LOST}, {3, -1, 0, 0, 0, LOST}, {0, 0, 3, -1, 0, LOST}, {0, 0, 3, 0, -1, LOST},
            {3, 0, 2, 61, 9, LOST},
            {0, 0, 1, 0, 0, STORE}, {1, 0, 0, 0, 0, STORE}, {0, 0, 2, 0, 1, STORE}, {2, 0, 1, 0, 0, STORE},
            {0, -1, 2, 0, 1, STORE}, {0, 0, 2, -1, 1, STORE}, {0, 0, 2, 0, -1, STORE}, {0, 0, 2, 0, 61, STORE}, {0, 6, 1, 1, 0, STORE},
            {0, -1, 0, 0, 1, INDEX}, {0, 0, 0, -1, 1, INDEX}, {0, 0, 0, 0, -1, INDEX}, {0, -1, 0, -1, 0, INDEX}, {0, -1, 0, 0, 0, INDEX}, {0, 0, 0, -1, 0, INDEX},
            {0, 0, 0, 0, 6, INDEX}, {0, 1, 0, 0, 5, INDEX}, {0, 0, 0, 1, 5, INDEX}, {0, 5, 0, 0, 1, INDEX}, {0, 0, 0, 5, 1, INDEX},
            {0, 6, 0, 0, 0, INDEX}, {0, 0, 0, 6, 0, INDEX}, {1, 0, 1, 0, 1, INDEX}, {1, 1, 1, 0, 0, INDEX}, {1, 0, 1, 1, 0, INDEX},
            {2, 0, 2, 0, 61, INDEX}, {2, 1, 2, 0, 60, INDEX}, {2, 0, 2, 1, 60, INDEX}, {2, 61, 2, 0, 0, INDEX},
            {0, MOST, 0, 0, 1, INDEX}, {0, 0, 0, MOST, 1, INDEX}, {0, 1, 0, 0, MOST, INDEX}, {0, 0, 0, 1, MOST, INDEX}, {0, MOST, 0, MOST, MOST, INDEX},
            {0, LEAST, 0, 0, 1, INDEX}, {0, 0, 0, LEAST, 1, INDEX}, {0, 0, 0, 0, LEAST, INDEX}, {0, 3, 0, 3, LEAST, INDEX}, {0, LEAST, 0, LEAST, LEAST, INDEX}};
        for (int[] r : refused) {
            String call = "copy " + r[0] + ", " + r[1] + ", " + r[2] + ", " + r[3] + ", " + r[4];
            is(call, r[5], x -> x.copy(r[0], r[1], r[2], r[3], r[4]));
        }
    }

    private static void readAndWrite() {
        dues.sentence("Promise 7: BAD; NULL");
        is("read -1", BAD, x -> x.read(-1));
        is("read 4", BAD, x -> x.read(4));
        is("read of a lost one", LOST, x -> x.read(3));
        dues.sentence("Promise 7: how many: 0 changes nothing");
        is("read of no items", 0, x -> x.read(1));
        is("read of what may not be", 0, x -> x.read(0));
        dues.sentence("Promise 28: BAD; NULL");
        is("write -1", BAD, x -> x.write(-1));
        is("write 4", BAD, x -> x.write(4));
        is("write to a lost one", LOST, x -> x.write(3));
        dues.sentence("Promise 28: as many as there are items: 0 changes nothing");
        is("write to no items", 0, x -> x.write(1));
    }

    private static void none() {
        state = LoanPoints::new;
        dues.sentence("Promise 4: NOT: there is none");
        is("back", NOT, x -> x.back());
        dues.sentence("Promise 5: how many there were: 0 changes nothing");
        is("clear", 0, x -> x.clear());
        dues.sentence("Promises 3, 6, 8, 12, 14 to 16: BAD, where there are no STATEMENTS");
        for (int p : new int[] {-1, 0, 1, 23}) {
            is("alter " + p, BAD, x -> x.alter(p, 0, 0, 0, 0));
            is("code " + p, BAD, x -> x.code(p, 0));
            is("next " + p, BAD, x -> x.next(p));
            is("holds " + p, BAD, x -> x.holds(p, 0));
            is("scope " + p, BAD, x -> x.scope(p));
            is("active " + p, BAD, x -> x.active(p));
            is("bears " + p, BAD, x -> x.bears(p));
        }
        dues.sentence("Promise 18: NONE");
        is("error 0", NONE, x -> x.error(0, 0));
        dues.sentence("Promise 19: NOT: there is none");
        is("witness 0", NOT, x -> x.witness(0, 0));
        dues.sentence("Promise 20: NONE: there are no STATEMENTS. BAD");
        is("mend 0", NONE, x -> x.mend(0));
        is("mend 1", NONE, x -> x.mend(1));
        is("mend 2", BAD, x -> x.mend(2));
        is("mend -1", BAD, x -> x.mend(-1));
        dues.sentence("Promise 1: all SHEETS are LOST");
        for (int s = 0; s < 4; s++) {
            int sheet = s;
            is("read " + s, LOST, x -> x.read(sheet));
            is("lose " + s, LOST, x -> x.lose(sheet));
            is("put " + s, LOST, x -> x.put(sheet, 0, 0, 0));
            is("get " + s, LEAST, 1, x -> x.get(sheet, 0, 0));
            is("copy " + s, LOST, x -> x.copy(sheet, 0, 3 - sheet, 0, 0));
            is("write " + s, LOST, x -> x.write(sheet));
        }
    }

    private static void full() {
        state = RefusalsTest::twentyFour;
        dues.sentence("Promise 2: BAD; FULL");
        is("add", FULL, x -> x.add(0, 0, 0, 0));
        is("add the greatest", FULL, x -> x.add(9, 7, 47, 23));
        is("add: kind 10", BAD, x -> x.add(10, 0, 0, 0));
        is("add: kind -1", BAD, x -> x.add(-1, 0, 0, 0));
        is("add: x 8", BAD, x -> x.add(0, 8, 0, 0));
        is("add: x -1", BAD, x -> x.add(0, -1, 0, 0));
        is("add: place 48", BAD, x -> x.add(0, 0, 48, 0));
        is("add: place -1", BAD, x -> x.add(0, 0, -1, 0));
        is("add: target 24", BAD, x -> x.add(0, 0, 0, 24));
        is("add: target -1", BAD, x -> x.add(0, 0, 0, -1));
        dues.sentence("Promise 7: as long as each may be: none behind the 24th");
        is("read", 0, x -> x.read(0));
        dues.sentence("Promises 3, 6, 8, 12, 14 to 16: BAD, at POINT 24");
        is("alter 24", BAD, x -> x.alter(24, 0, 0, 0, 0));
        is("code 24", BAD, x -> x.code(24, 0));
        is("next 24", BAD, x -> x.next(24));
        is("holds 24", BAD, x -> x.holds(24, 0));
        is("scope 24", BAD, x -> x.scope(24));
        is("active 24", BAD, x -> x.active(24));
        is("bears 24", BAD, x -> x.bears(24));
    }
}
