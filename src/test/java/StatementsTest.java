/** Promises 1 to 7: a new object, add, alter, back, clear, code, read. */
public final class StatementsTest {
    private static final Dues dues = new Dues("StatementsTest");
    private static final int BAD = -2, NOT = -3, FULL = -4;

    public static void main(String[] args) {
        newObject();
        add();
        alter();
        backAndClear();
        code();
        read();
        readStops();
        dues.end();
    }

    private static void newObject() {
        LoanPoints x = new LoanPoints();
        dues.due("NONE", LoanPoints.NONE, -1);
        dues.due("BAD", LoanPoints.BAD, -2);
        dues.due("NOT", LoanPoints.NOT, -3);
        dues.due("FULL", LoanPoints.FULL, -4);
        for (int what = 0; what <= 8; what++) {
            dues.due("new: count " + what, x.count(what), 0);
        }
        for (int s = 0; s < 4; s++) {
            dues.due("new: lose " + s, x.lose(s), -11);
        }
        dues.due("new: code", x.code(0, 0), BAD);
        dues.due("new: back", x.back(), NOT);
    }

    private static void add() {
        LoanPoints x = new LoanPoints();
        int[][] wrong = {
            {-1, 0, 0, 0}, {10, 0, 0, 0}, {0, -1, 0, 0}, {0, 8, 0, 0}, {0, 0, -1, 0}, {0, 0, 48, 0}, {0, 0, 0, -1}, {0, 0, 0, 24},
            {Integer.MIN_VALUE, 0, 0, 0}, {0, Integer.MAX_VALUE, 0, 0}, {0, 0, Integer.MIN_VALUE, 0}, {0, 0, 0, Integer.MAX_VALUE}};
        for (int n = 1; n <= 24; n++) {
            for (int[] w : wrong) {
                dues.due("add wrong", x.add(w[0], w[1], w[2], w[3]), BAD);
            }
            dues.due("add " + n, n % 2 == 0 ? x.add(9, 7, 47, 23) : x.add(0, 0, 0, 0), n);
        }
        dues.due("add beyond", x.add(0, 0, 0, 0), FULL);
        dues.due("add wrong beyond", x.add(10, 0, 0, 0), BAD);
        dues.due("count", x.count(0), 24);
    }

    private static void alter() {
        LoanPoints x = Dues.program(0, 0, 0, 0, 1, 1, 11, 1);
        dues.due("alter", x.alter(1, 4, 2, 47, 23), 1);
        dues.due("kind", x.code(1, 0), 4);
        dues.due("x", x.code(1, 1), 2);
        dues.due("place", x.code(1, 2), 47);
        dues.due("target", x.code(1, 3), 23);
        dues.due("the other one", x.code(0, 0), 0);
        dues.due("alter behind all", x.alter(2, 0, 0, 0, 0), BAD);
        dues.due("alter ahead", x.alter(-1, 0, 0, 0, 0), BAD);
        dues.due("alter far", x.alter(Integer.MAX_VALUE, 0, 0, 0, 0), BAD);
        dues.due("alter kind", x.alter(0, 10, 0, 0, 0), BAD);
        dues.due("alter x", x.alter(0, 1, 8, 0, 0), BAD);
        dues.due("alter place", x.alter(0, 1, 0, 48, 0), BAD);
        dues.due("alter target", x.alter(0, 1, 0, 0, 24), BAD);
        dues.due("refused: unchanged", x.code(0, 0), 0);
        dues.due("how many", x.count(0), 2);
        dues.due("what is found follows", x.errors(), 1);
        x.alter(1, 0, 0, 0, 0);
        dues.due("what is found follows again", x.errors(), 0);
    }

    private static void backAndClear() {
        LoanPoints x = Dues.program(1, 0, 13, 0, 1, 0, 23, 0);
        dues.due("errors of both", x.errors(), 2);
        dues.due("back", x.back(), 1);
        dues.due("errors of one", x.errors(), 1);
        dues.due("gone", x.code(1, 0), BAD);
        dues.due("back", x.back(), 0);
        dues.due("errors of none", x.errors(), 0);
        dues.due("back of none", x.back(), NOT);
        dues.due("clear of none", x.clear(), 0);
        x.add(1, 0, 9, 0);
        x.add(0, 0, 0, 0);
        dues.due("clear", x.clear(), 2);
        dues.due("cleared", x.count(0), 0);
        dues.due("cleared errors", x.errors(), 0);
        dues.due("add behind clear", x.add(0, 0, 0, 0), 1);
    }

    private static void code() {
        LoanPoints x = Dues.program(5, 7, 13, 22);
        dues.due("a plan through a variable is told as it is", x.code(0, 0), 5);
        dues.due("code 1", x.code(0, 1), 7);
        dues.due("code 2", x.code(0, 2), 9);
        dues.due("code 3", x.code(0, 3), 22);
        dues.due("code 4", x.code(0, 4), BAD);
        dues.due("code -1", x.code(0, -1), BAD);
        dues.due("code of no point", x.code(1, 0), BAD);
        dues.due("code of -1", x.code(-1, 0), BAD);
    }

    private static void read() {
        LoanPoints x = Dues.program(0, 0, 0, 0);
        dues.due("read of no sheet", x.read(4), BAD);
        dues.due("read of no sheet", x.read(-1), BAD);
        dues.due("no finding", x.count(8), 0);
        dues.due("read of a lost one", x.read(3), -11);
        dues.due("finding", x.count(8), 1);
        for (int form = 0; form < 3; form++) {
            x.sheet(form, form, 11);
            int[] items = {3, 1, 6, 2, 1, 0, 9, 0, 1, 1, 1};
            for (int i = 0; i < items.length; i++) {
                x.put(form, form, i, items[i]);
            }
            dues.due("read", x.read(form), 2);
            dues.due("how many", x.count(0), 3 + 2 * form);
            dues.due("kind", x.code(1 + 2 * form, 0), 3);
            dues.due("x", x.code(1 + 2 * form, 1), 1);
            dues.due("place", x.code(1 + 2 * form, 2), 6);
            dues.due("target", x.code(1 + 2 * form, 3), 2);
            dues.due("place of the second", x.code(2 + 2 * form, 2), 9);
        }
        x.sheet(0, 0, 0);
        dues.due("read of an empty one", x.read(0), 0);
        x.sheet(0, 0, 3);
        dues.due("read of less than one", x.read(0), 0);
        dues.due("how many", x.count(0), 7);
    }

    private static void readStops() {
        LoanPoints x = new LoanPoints();
        x.sheet(1, 2, 60);
        x.put(1, 2, 8, 10);
        dues.due("read up to the wrong one", x.read(1), 2);
        x.put(1, 2, 0, -1);
        dues.due("read of none", x.read(1), 0);
        dues.due("how many", x.count(0), 2);
        x.put(1, 2, 0, 0);
        x.put(1, 2, 8, 9);
        x.put(1, 2, 10, 48);
        dues.due("read up to the wrong place", x.read(1), 2);
        x.put(1, 2, 10, 0);
        dues.due("read all", x.read(1), 15);
        dues.due("how many", x.count(0), 19);
        dues.due("read until it is full", x.read(1), 5);
        dues.due("read when it is full", x.read(1), 0);
        dues.due("how many", x.count(0), 24);
    }
}
