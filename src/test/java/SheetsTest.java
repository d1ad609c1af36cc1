/** Promises 23 to 30: sheet, lose, put, get, copy, write, count, digest. */
public final class SheetsTest {
    private static final Dues dues = new Dues("SheetsTest");
    private static final int BAD = -2, LOST = -11, INDEX = -12, CAST = -13, STORE = -14, SIZE = -15;
    private static final int LEAST = Integer.MIN_VALUE, MOST = Integer.MAX_VALUE;

    public static void main(String[] args) {
        sheetAndLose();
        putAndGet();
        getRefused();
        copy();
        copyRefused();
        write();
        count();
        digest();
        dues.end();
    }

    private static void sheetAndLose() {
        LoanPoints x = new LoanPoints();
        dues.due("sheet of no items", x.sheet(0, 0, 0), 0);
        dues.due("sheet of 60", x.sheet(3, 2, 60), 60);
        dues.due("sheet of 61", x.sheet(0, 0, 61), BAD);
        dues.due("sheet 4", x.sheet(4, 0, 1), BAD);
        dues.due("sheet -1", x.sheet(-1, 0, 1), BAD);
        dues.due("form 3", x.sheet(0, 3, 1), BAD);
        dues.due("form -1", x.sheet(0, -1, 1), BAD);
        dues.due("form ahead of size", x.sheet(0, 3, -1), BAD);
        dues.due("no finding", x.count(8), 0);
        dues.due("size", x.sheet(0, 0, -1), SIZE);
        dues.due("size", x.sheet(0, 0, LEAST), SIZE);
        dues.due("finding", x.count(8), 5);
        dues.due("refused: unchanged", x.lose(0), 0);
        dues.due("lost", x.lose(0), LOST);
        dues.due("finding", x.count(8), 1);
        dues.due("lose", x.lose(3), 60);
        dues.due("lose 4", x.lose(4), BAD);
        dues.due("lose -1", x.lose(-1), BAD);
        x.sheet(1, 1, 2);
        x.put(1, 1, 0, 9);
        dues.due("a new row", x.sheet(1, 1, 3), 3);
        dues.due("its items are 0", x.get(1, 1, 0), 0);
        x.put(1, 1, 2, 9);
        x.lose(1);
        x.sheet(1, 1, 3);
        dues.due("its items are 0 again", x.get(1, 1, 2), 0);
    }

    private static void putAndGet() {
        LoanPoints x = new LoanPoints();
        for (int form = 0; form < 3; form++) {
            x.sheet(form, form, 4);
            dues.due("put", x.put(form, form, 3, 0x12348765), 1);
        }
        dues.due("a byte", x.get(0, 0, 3), 0x65);
        dues.due("a short", x.get(1, 1, 3), (short) 0x8765);
        dues.due("an int", x.get(2, 2, 3), 0x12348765);
        x.put(0, 0, 0, 128);
        dues.due("a byte below 0", x.get(0, 0, 0), -128);
        x.put(1, 1, 0, -1);
        dues.due("a short below 0", x.get(1, 1, 0), -1);
        x.put(2, 2, 0, LEAST);
        dues.due("the least int", x.get(2, 2, 0), LEAST);
        dues.due("no finding", x.count(8), 0);
        dues.due("put: sheet 4", x.put(4, 0, 0, 0), BAD);
        dues.due("put: sheet -1", x.put(-1, 0, 0, 0), BAD);
        dues.due("put: form 3 of a lost one", x.put(3, 3, 0, 0), BAD);
        dues.due("put: form -1", x.put(0, -1, 0, 0), BAD);
        dues.due("no finding", x.count(8), 0);
        dues.due("put: lost", x.put(3, 0, 99, 0), LOST);
        dues.due("finding", x.count(8), 1);
        dues.due("put: cast ahead of index", x.put(0, 1, 99, 0), CAST);
        dues.due("finding", x.count(8), 3);
        dues.due("put: index 4", x.put(0, 0, 4, 7), INDEX);
        dues.due("finding", x.count(8), 2);
        dues.due("put: index -1", x.put(0, 0, -1, 7), INDEX);
        dues.due("put: index far", x.put(0, 0, MOST, 7), INDEX);
        dues.due("unchanged", x.get(0, 0, 3), 0x65);
    }

    private static void getRefused() {
        LoanPoints x = new LoanPoints();
        x.sheet(0, 0, 4);
        dues.due("get: sheet 4", x.get(4, 0, 0), LEAST);
        dues.due("get: sheet -1", x.get(-1, 0, 0), LEAST);
        dues.due("get: form 3", x.get(0, 3, 0), LEAST);
        dues.due("get: form -1", x.get(1, -1, 0), LEAST);
        dues.due("no finding", x.count(8), 0);
        dues.due("get: lost", x.get(1, 0, 0), LEAST);
        dues.due("finding", x.count(8), 1);
        dues.due("get: cast", x.get(0, 2, -1), LEAST);
        dues.due("finding", x.count(8), 3);
        dues.due("get: index", x.get(0, 0, 4), LEAST);
        dues.due("finding", x.count(8), 2);
        x.get(1, 0, 0);
        dues.due("get: index -1", x.get(0, 0, -1), LEAST);
        dues.due("finding", x.count(8), 2);
        x.get(0, 0, 0);
        dues.due("the latest finding stays", x.count(8), 2);
    }

    private static void copy() {
        LoanPoints x = new LoanPoints();
        x.sheet(0, 1, 5);
        x.sheet(1, 1, 4);
        for (int i = 0; i < 5; i++) {
            x.put(0, 1, i, i + 1);
        }
        dues.due("copy", x.copy(0, 2, 1, 1, 3), 1);
        int[] there = {0, 3, 4, 5};
        for (int i = 0; i < 4; i++) {
            dues.due("copied " + i, x.get(1, 1, i), there[i]);
        }
        dues.due("copy onward in itself", x.copy(0, 0, 0, 1, 4), 1);
        int[] onward = {1, 1, 2, 3, 4};
        for (int i = 0; i < 5; i++) {
            dues.due("as they were " + i, x.get(0, 1, i), onward[i]);
        }
        dues.due("copy back in itself", x.copy(0, 1, 0, 0, 4), 1);
        int[] back = {1, 2, 3, 4, 4};
        for (int i = 0; i < 5; i++) {
            dues.due("as they were " + i, x.get(0, 1, i), back[i]);
        }
        dues.due("copy of none at the ends", x.copy(0, 5, 1, 4, 0), 1);
    }

    private static void copyRefused() {
        LoanPoints x = new LoanPoints();
        x.sheet(0, 1, 5);
        x.sheet(1, 1, 4);
        x.sheet(2, 2, 4);
        int[][] index = {{-1, 0, 1}, {0, -1, 1}, {0, 0, -1}, {0, 0, 5}, {2, 0, 4}, {0, 1, 4}, {6, 0, 0}, {0, 5, 0},
            {MOST, 0, 1}, {0, MOST, 1}, {1, 1, MOST}, {MOST, MOST, MOST}, {LEAST, LEAST, LEAST}, {5, 0, 1}, {0, 4, 1}};
        for (int[] c : index) {
            dues.due("copy: index", x.copy(0, c[0], 1, c[1], c[2]), INDEX);
        }
        dues.due("finding", x.count(8), 2);
        dues.due("copy: store ahead of index", x.copy(0, -1, 2, 0, 1), STORE);
        dues.due("finding", x.count(8), 4);
        dues.due("copy: from a lost one", x.copy(3, 0, 0, 0, 1), LOST);
        dues.due("finding", x.count(8), 1);
        dues.due("copy: to a lost one", x.copy(0, 0, 3, 0, 1), LOST);
        dues.due("copy: of a lost one to itself", x.copy(3, 0, 3, 0, 0), LOST);
        x.copy(0, 0, 2, 0, 0);
        dues.due("copy: unlike ones, none of them", x.count(8), 4);
        dues.due("copy: from sheet 4 to a lost one", x.copy(4, 0, 3, 0, 0), BAD);
        dues.due("copy: from a lost one to sheet -1", x.copy(3, 0, -1, 0, 0), BAD);
        dues.due("finding", x.count(8), 4);
    }

    private static void write() {
        LoanPoints x = Dues.program(0, 0, 0, 0, 1, 0, 13, 0, 2, 0, 24, 0, 0, 0, 0, 0, 3, 0, 35, 0);
        dues.due("write 4", x.write(4), BAD);
        dues.due("write -1", x.write(-1), BAD);
        dues.due("no finding", x.count(8), 0);
        dues.due("write to a lost one", x.write(0), LOST);
        dues.due("finding", x.count(8), 1);
        for (int form = 0; form < 3; form++) {
            x.sheet(form, form, 5);
            for (int i = 0; i < 5; i++) {
                x.put(form, form, i, 77);
            }
            dues.due("write", x.write(form), 3);
            int[] there = {1, 2, 4, 77, 77};
            for (int i = 0; i < 5; i++) {
                dues.due("written " + i, x.get(form, form, i), there[i]);
            }
        }
        x.sheet(3, 0, 2);
        dues.due("write to a short one", x.write(3), 2);
        dues.due("written", x.get(3, 0, 1), 2);
        x.sheet(3, 0, 0);
        dues.due("write to an empty one", x.write(3), 0);
        x.clear();
        dues.due("write of none", x.write(0), 0);
    }

    private static void count() {
        LoanPoints x = Dues.program(4, 1, 0, 0, 1, 0, 0, 0, 1, 0, 13, 0, 3, 2, 11, 0, 2, 0, 23, 0, 1, 0, 33, 0, 9, 0, 0, 0, 0, 0, 0, 0);
        int[] want = {8, 7, 2, 4, 1, 1, 1, 1, 0};
        for (int what = 0; what <= 8; what++) {
            dues.due("count " + what, x.count(what), want[what]);
        }
        dues.due("count 9", x.count(9), BAD);
        dues.due("count -1", x.count(-1), BAD);
        dues.due("count far", x.count(LEAST), BAD);
    }

    private static void digest() {
        LoanPoints x = new LoanPoints();
        dues.due("digest of none", x.digest(), digestOf(x));
        long before = x.digest();
        x.lose(0);
        x.sheet(1, 1, 1);
        dues.due("sheets are no part of it", x.digest(), before);
        LoanPoints y = Dues.program(5, 1, 0, 0, 3, 2, 1, 0, 7, 0, 0, 6, 2, 0, 13, 0, 1, 0, 23, 0, 8, 0, 0, 1, 4, 2, 20, 0, 2, 0, 2, 0, 1, 0, 13, 0);
        dues.due("digest", y.digest(), digestOf(y));
        dues.due("digest again", y.digest(), digestOf(y));
        dues.due("it tells programs apart", y.digest() == before ? 1 : 0, 0);
        y.alter(8, 1, 0, 14 + 1, 3);
        dues.due("digest behind a change", y.digest(), digestOf(y));
    }

    private static long h;

    private static void fold(long answer) {
        h = 31 * h + answer;
    }

    private static long digestOf(LoanPoints x) {
        h = 17;
        for (int what = 0; what <= 7; what++) {
            fold(x.count(what));
        }
        fold(x.reached());
        fold(x.loans());
        for (int v = 0; v < 8; v++) {
            fold(x.live(v));
            fold(x.region(v));
        }
        for (int p = 0; p < x.count(0); p++) {
            for (int what = 0; what <= 3; what++) {
                fold(x.code(p, what));
            }
            fold(x.next(p));
            for (int v = 0; v < 8; v++) {
                fold(x.holds(p, v));
            }
            fold(x.scope(p));
            fold(x.active(p));
            fold(x.bears(p));
        }
        for (int i = 0; i < 30; i++) {
            for (int what = 0; what <= 2; what++) {
                fold(x.error(i, what));
            }
            fold(x.witness(i, -1));
            fold(x.witness(i, 1));
        }
        fold(x.mend(0));
        fold(x.mend(1));
        fold(x.soft());
        for (int choices : new int[] {0, 5, 2147483647}) {
            for (int what = 0; what <= 2; what++) {
                fold(x.run(choices, 60, what));
            }
        }
        return h;
    }
}
