/** The boundary cases of sheets: promises 7 and 23 to 29. */
public final class SheetEdgesTest {
    private static final Dues dues = new Dues("SheetEdgesTest");
    private static final int LEAST = Integer.MIN_VALUE, MOST = Integer.MAX_VALUE;
    private static final int LOST = -11, INDEX = -12, CAST = -13, STORE = -14, SIZE = -15;
    private static final int USE = 1, SET = 2, SHARE = 3;

    public static void main(String[] args) {
        lostAtFirst();
        sizes();
        rows();
        lose();
        lowestBits();
        items();
        copyEnds();
        copyAsTheyWere();
        copyForms();
        readWhole();
        readForms();
        readUntilFull();
        write();
        writeMany();
        findings();
        dues.end();
    }

    private static String row(LoanPoints x, int s, int form, int n) {
        StringBuilder out = new StringBuilder();
        for (int i = 0; i < n; i++) {
            out.append(i == 0 ? "" : " ").append(x.get(s, form, i));
        }
        return out.toString();
    }

    private static LoanPoints with(int form, int... items) {
        LoanPoints x = new LoanPoints();
        x.sheet(0, form, items.length);
        for (int i = 0; i < items.length; i++) {
            x.put(0, form, i, items[i]);
        }
        return x;
    }

    private static void lostAtFirst() {
        dues.sentence("SHEETS 0 .. 3 are LOST (at first)");
        for (int s = 0; s < 4; s++) {
            LoanPoints x = new LoanPoints();
            dues.due("sheet " + s, x.lose(s), LOST);
            x.sheet(s, 0, 1);
            for (int t = 0; t < 4; t++) {
                dues.due("lose " + t + " behind sheet " + s, x.lose(t), s == t ? 1 : LOST);
            }
        }
    }

    private static void sizes() {
        dues.sentence("a row of a FORM: 0 bytes, 1 shorts, 2 ints, of 0 to 60 items (0 at first)");
        for (int form = 0; form < 3; form++) {
            for (int n = 0; n <= 60; n++) {
                LoanPoints x = new LoanPoints();
                dues.due("sheet of " + n, x.sheet(3, form, n), n);
                for (int i = 0; i < n; i++) {
                    dues.due("item " + i + " at first", x.get(3, form, i), 0);
                }
                dues.due("no finding so far", x.count(8), 0);
                dues.due("one beyond", x.get(3, form, n), LEAST);
                dues.due("index", x.count(8), 2);
                dues.due("put at one beyond", x.put(3, form, n, 1), INDEX);
                dues.due("lose of " + n, x.lose(3), n);
            }
        }
    }

    private static void rows() {
        dues.sentence("A SHEET is a new row of a FORM with n items: n");
        LoanPoints x = with(2, 1, 2, 3);
        dues.due("the same again", x.sheet(0, 2, 3), 3);
        dues.due("its items are 0", row(x, 0, 2, 3), "0 0 0");
        x.put(0, 2, 2, 9);
        x.sheet(0, 2, 2);
        x.sheet(0, 2, 3);
        dues.due("shorter, and as long as before", row(x, 0, 2, 3), "0 0 0");
        x.put(0, 2, 0, 9);
        dues.due("another form", x.sheet(0, 0, 3), 3);
        dues.due("its items are 0", row(x, 0, 0, 3), "0 0 0");
        dues.due("no finding", x.count(8), 0);
        x.get(0, 2, 0);
        dues.due("the old form is gone", x.count(8), 3);
        dues.due("no items", x.sheet(0, 0, 0), 0);
        dues.due("an empty one is not lost", x.lose(0), 0);
        dues.due("but then", x.lose(0), LOST);
        for (int i = 0; i < 60; i++) {
            LoanPoints full = new LoanPoints();
            full.sheet(0, 2, 60);
            full.put(0, 2, i, 9);
            full.sheet(0, 2, 60);
            dues.due("item " + i + " of a new row", full.get(0, 2, i), 0);
        }
        dues.sentence("A SHEET is a row of its own");
        LoanPoints y = new LoanPoints();
        for (int s = 0; s < 4; s++) {
            y.sheet(s, 1, 2);
        }
        for (int s = 0; s < 4; s++) {
            y.put(s, 1, 0, 10 + s);
            y.put(s, 1, 1, 20 + s);
        }
        for (int s = 0; s < 4; s++) {
            dues.due("sheet " + s, row(y, s, 1, 2), (10 + s) + " " + (20 + s));
        }
        LoanPoints z = new LoanPoints();
        dues.due("of another object", z.lose(0), LOST);
    }

    private static void lose() {
        dues.sentence("It is LOST: how many items it had");
        LoanPoints x = new LoanPoints();
        for (int n : new int[] {0, 1, 59, 60}) {
            x.sheet(2, 1, n);
            dues.due("lose of " + n, x.lose(2), n);
            dues.due("it is lost", x.lose(2), LOST);
            dues.due("put", x.put(2, 1, 0, 0), LOST);
            dues.due("get", x.get(2, 1, 0), LEAST);
            dues.due("read", x.read(2), LOST);
            dues.due("write", x.write(2), LOST);
            dues.due("copy", x.copy(2, 0, 2, 0, 0), LOST);
        }
        x.sheet(2, 1, 1);
        x.put(2, 1, 0, 5);
        x.lose(2);
        x.sheet(2, 1, 1);
        dues.due("what it had is gone", x.get(2, 1, 0), 0);
    }

    private static void lowestBits() {
        dues.sentence("Item i becomes v (the lowest bits that it has)");
        int[][] kept = {
            // v, as a byte, as a short
            {0, 0, 0}, {1, 1, 1}, {-1, -1, -1}, {127, 127, 127}, {128, -128, 128}, {129, -127, 129}, {255, -1, 255}, {256, 0, 256}, {257, 1, 257},
            {-127, -127, -127}, {-128, -128, -128}, {-129, 127, -129}, {-256, 0, -256}, {-257, -1, -257}, {384, -128, 384},
            {32767, -1, 32767}, {32768, 0, -32768}, {32769, 1, -32767}, {65535, -1, -1}, {65536, 0, 0}, {65537, 1, 1}, {98304, 0, -32768},
            {-32767, 1, -32767}, {-32768, 0, -32768}, {-32769, -1, 32767}, {-65536, 0, 0}, {-65537, -1, -1},
            {MOST, -1, -1}, {LEAST, 0, 0}, {MOST - 127, -128, -128}, {LEAST + 127, 127, 127}, {0x12348765, 0x65, 0x8765 - 0x10000}};
        for (int[] k : kept) {
            for (int i : new int[] {0, 59}) {
                LoanPoints x = new LoanPoints();
                for (int form = 0; form < 3; form++) {
                    x.sheet(form, form, 60);
                    dues.due("put " + k[0], x.put(form, form, i, k[0]), 1);
                }
                dues.due(k[0] + " as a byte", x.get(0, 0, i), k[1]);
                dues.due(k[0] + " as a short", x.get(1, 1, i), k[2]);
                dues.due(k[0] + " as an int", x.get(2, 2, i), k[0]);
                dues.due("no finding", x.count(8), 0);
            }
        }
    }

    private static void items() {
        dues.sentence("put: Item i becomes v: 1; get: Item i of it: the first, the last, no other");
        for (int form = 0; form < 3; form++) {
            for (int i : new int[] {0, 1, 58, 59}) {
                LoanPoints x = new LoanPoints();
                x.sheet(1, form, 60);
                dues.due("put", x.put(1, form, i, 7), 1);
                for (int j = 0; j < 60; j++) {
                    dues.due("item " + j + " behind a put at " + i, x.get(1, form, j), i == j ? 7 : 0);
                }
                dues.due("again", x.put(1, form, i, -7), 1);
                dues.due("it is the newer", x.get(1, form, i), -7);
            }
        }
        dues.sentence("Item i, treated as of a FORM: CAST: it has another FORM");
        for (int form = 0; form < 3; form++) {
            for (int as = 0; as < 3; as++) {
                LoanPoints x = with(form, 5);
                dues.due("put to form " + form + " as " + as, x.put(0, as, 0, 6), form == as ? 1 : CAST);
                dues.due("count(8)", x.count(8), form == as ? 0 : 3);
                dues.due("get", x.get(0, form, 0), form == as ? 6 : 5);
                dues.due("get of form " + form + " as " + as, x.get(0, as, 0), form == as ? 6 : LEAST);
                LoanPoints empty = with(form);
                dues.due("put to an empty one", empty.put(0, as, 0, 6), form == as ? INDEX : CAST);
            }
        }
    }

    private static void copyEnds() {
        dues.sentence("n items of SHEET s, from i on, come to SHEET t, from j on: 1");
        int[][] fits = {{0, 0, 0}, {0, 0, 1}, {0, 0, 3}, {4, 0, 1}, {0, 2, 1}, {2, 0, 3}, {2, 1, 2}, {5, 3, 0}, {5, 0, 0}, {0, 3, 0}, {1, 1, 1}};
        for (int[] f : fits) {
            LoanPoints x = with(1, 11, 12, 13, 14, 15);
            x.sheet(3, 1, 3);
            dues.due("copy " + f[0] + ", " + f[1] + ", " + f[2], x.copy(0, f[0], 3, f[1], f[2]), 1);
            StringBuilder want = new StringBuilder();
            for (int i = 0; i < 3; i++) {
                boolean come = i >= f[1] && i < f[1] + f[2];
                want.append(i == 0 ? "" : " ").append(come ? 11 + f[0] + i - f[1] : 0);
            }
            dues.due("to", row(x, 3, 1, 3), want.toString());
            dues.due("from", row(x, 0, 1, 5), "11 12 13 14 15");
            dues.due("no finding", x.count(8), 0);
        }
        LoanPoints y = new LoanPoints();
        y.sheet(0, 2, 60);
        y.sheet(1, 2, 60);
        y.put(0, 2, 0, LEAST);
        y.put(0, 2, 59, MOST);
        dues.due("all of 60", y.copy(0, 0, 1, 0, 60), 1);
        dues.due("the first", y.get(1, 2, 0), LEAST);
        dues.due("the last", y.get(1, 2, 59), MOST);
        dues.due("none of 60, behind the last", y.copy(0, 60, 1, 60, 0), 1);
        y.sheet(2, 2, 0);
        dues.due("none of none", y.copy(2, 0, 2, 0, 0), 1);
        dues.due("none to none", y.copy(0, 60, 2, 0, 0), 1);
        dues.due("one to none", y.copy(0, 0, 2, 0, 1), INDEX);
        dues.due("one of none", y.copy(2, 0, 0, 0, 1), INDEX);
    }

    private static void copyAsTheyWere() {
        dues.sentence("come to SHEET t (perhaps s, as they were)");
        for (int i = 0; i <= 6; i++) {
            for (int j = 0; j <= 6; j++) {
                for (int n = 0; n <= 7; n++) {
                    LoanPoints x = with(0, 1, 2, 3, 4, 5, 6);
                    boolean fits = i + n <= 6 && j + n <= 6;
                    dues.due("copy in itself " + i + ", " + j + ", " + n, x.copy(0, i, 0, j, n), fits ? 1 : INDEX);
                    StringBuilder want = new StringBuilder();
                    for (int k = 0; k < 6; k++) {
                        boolean come = fits && k >= j && k < j + n;
                        want.append(k == 0 ? "" : " ").append(come ? 1 + i + k - j : 1 + k);
                    }
                    dues.due("as they were " + i + ", " + j + ", " + n, row(x, 0, 0, 6), want.toString());
                }
            }
        }
    }

    private static void copyForms() {
        dues.sentence("STORE: unlike FORMS");
        for (int one = 0; one < 3; one++) {
            for (int other = 0; other < 3; other++) {
                LoanPoints x = with(one, -5);
                x.sheet(1, other, 1);
                boolean alike = one == other;
                dues.due("forms " + one + ", " + other, x.copy(0, 0, 1, 0, 1), alike ? 1 : STORE);
                dues.due("to", x.get(1, other, 0), alike ? -5 : 0);
                dues.due("count(8)", x.count(8), alike ? 0 : 4);
                dues.due("none of them", x.copy(0, 0, 1, 0, 0), alike ? 1 : STORE);
            }
        }
    }

    private static void readWhole() {
        dues.sentence("read: its items, four for each, as many as are whole");
        for (int n = 0; n <= 60; n++) {
            LoanPoints x = new LoanPoints();
            x.sheet(0, 0, n);
            dues.due("read of " + n, x.read(0), n / 4);
            dues.due("statements", x.count(0), n / 4);
        }
        dues.sentence("STATEMENTS from a SHEET, behind all others");
        LoanPoints y = with(1, 9, 7, 47, 23, 0, 0, 0, 0, 1, 1, 1);
        y.add(3, 2, 1, 0);
        dues.due("read", y.read(0), 2);
        int[][] want = {{3, 2, 1, 0}, {9, 7, 47, 23}, {0, 0, 0, 0}};
        for (int p = 0; p < 3; p++) {
            for (int what = 0; what < 4; what++) {
                dues.due("code " + p + ", " + what, y.code(p, what), want[p][what]);
            }
        }
        dues.due("the sheet stays", row(y, 0, 1, 11), "9 7 47 23 0 0 0 0 1 1 1");
        dues.due("what is found follows", y.reached(), 3);
        dues.due("read again", y.read(0), 2);
        dues.due("statements", y.count(0), 5);
        dues.sentence("read: as long as each may be");
        for (int at = 0; at < 12; at++) {
            LoanPoints x = with(2, 0, 0, 0, 0, 0, 0, 0, 0, 0, 0, 0, 0);
            x.put(0, 2, at, -1);
            dues.due("the wrong one is item " + at, x.read(0), at / 4);
            dues.due("statements", x.count(0), at / 4);
        }
        LoanPoints z = with(2, 0, 0, 0, 0, 0, 0, 0, 0);
        z.put(0, 2, 4, 10);
        dues.due("no finding", z.read(0) + z.count(8), 1);
    }

    private static void readForms() {
        dues.sentence("read: of bytes, shorts, ints, as they were kept");
        int[] kinds = {256 + 9, 65536 + 9, 9};
        for (int form = 0; form < 3; form++) {
            LoanPoints x = with(form, kinds[form], 7, 47, 23);
            dues.due("form " + form, x.read(0), 1);
            dues.due("kind", x.code(0, 0), 9);
        }
        dues.due("a byte below 0", with(0, 255, 0, 0, 0).read(0), 0);
        dues.due("a short below 0", with(1, 65535, 0, 0, 0).read(0), 0);
        dues.due("a short above", with(1, 256, 0, 0, 0).read(0), 0);
        dues.due("an int above", with(2, 65536, 0, 0, 0).read(0), 0);
    }

    private static void readUntilFull() {
        dues.sentence("STATEMENTS, 24 at most: read");
        for (int before = 0; before <= 24; before++) {
            LoanPoints x = new LoanPoints();
            for (int p = 0; p < before; p++) {
                x.add(1, 1, 1, 1);
            }
            x.sheet(0, 0, 60);
            int many = Math.min(15, 24 - before);
            dues.due("read behind " + before, x.read(0), many);
            dues.due("statements", x.count(0), before + many);
            dues.due("the one ahead", before > 0 ? x.code(before - 1, 0) : 1, 1);
            dues.due("no finding", x.count(8), 0);
        }
    }

    private static void write() {
        dues.sentence("POINTS of ERRORS come to a SHEET from item 0 on, as many as there are items, and ERRORS: how many");
        for (int errors = 0; errors <= 4; errors++) {
            for (int n = 0; n <= 5; n++) {
                LoanPoints x = Dues.program(0, 0, 0, 0);
                for (int e = 0; e < errors; e++) {
                    x.add(USE, 0, 3, 0);
                }
                x.sheet(2, n % 3, n);
                for (int i = 0; i < n; i++) {
                    x.put(2, n % 3, i, -9);
                }
                int many = Math.min(n, errors);
                dues.due("write of " + errors + " to " + n, x.write(2), many);
                for (int i = 0; i < n; i++) {
                    dues.due("item " + i, x.get(2, n % 3, i), i < many ? i + 1 : -9);
                }
                dues.due("no finding", x.count(8), 0);
            }
        }
        LoanPoints y = Dues.program(USE, 0, 3, 0);
        y.sheet(0, 0, 1);
        dues.due("written, then read", y.write(0) + y.read(0), 1);
        dues.due("of no statements", new LoanPoints().write(0), LOST);
    }

    /** Seven loans that each of nine sets clashes with, but that a set of the first part spares the seventh. */
    private static LoanPoints manyErrors(int whole) {
        LoanPoints x = new LoanPoints();
        for (int v = 1; v <= 7; v++) {
            x.add(SHARE, v, v < 7 ? 0 : 2, 0);
        }
        for (int p = 0; p < 9; p++) {
            x.add(SET, 0, p < whole ? 0 : 1, 0);
        }
        for (int v = 1; v <= 7; v++) {
            x.add(USE, 0, 6 * v + 3, 0);
        }
        return x;
    }

    private static void writeMany() {
        dues.sentence("write: as many as there are items, and ERRORS: 60 items, 59, 60 and 61 ERRORS");
        for (int whole = 5; whole <= 7; whole++) {
            LoanPoints x = manyErrors(whole);
            int errors = 54 + whole;
            dues.due("errors", x.errors(), errors);
            x.sheet(1, 1, 60);
            x.put(1, 1, 59, -9);
            dues.due("write of " + errors, x.write(1), Math.min(60, errors));
            int i = 0;
            for (int p = 0; p < 9; p++) {
                for (int loan = 0; loan < (p < whole ? 7 : 6) && i < 60; loan++) {
                    dues.due("item " + i, x.get(1, 1, i), 7 + p);
                    i++;
                }
            }
            dues.due("the last item", x.get(1, 1, 59), errors < 60 ? -9 : 15);
            dues.due("error 59", x.error(59, 0), errors < 60 ? -1 : 15);
            dues.due("error 60", x.error(60, 0), errors < 61 ? -1 : 15);
        }
    }

    private static void findings() {
        dues.sentence("FINDINGS (answers -10 less the number): 1 NULL, 2 INDEX, 3 CAST, 4 STORE, 5 SIZE; count(8): the number of the latest FINDING (0 before any)");
        LoanPoints x = new LoanPoints();
        dues.due("before any", x.count(8), 0);
        dues.due("null", x.lose(0), -11);
        dues.due("count(8)", x.count(8), 1);
        x.sheet(0, 0, 1);
        x.sheet(1, 1, 1);
        dues.due("it stays behind calls that find nothing", x.count(8), 1);
        dues.due("index", x.put(0, 0, 1, 0), -12);
        dues.due("count(8)", x.count(8), 2);
        dues.due("cast", x.put(0, 1, 0, 0), -13);
        dues.due("count(8)", x.count(8), 3);
        dues.due("store", x.copy(0, 0, 1, 0, 1), -14);
        dues.due("count(8)", x.count(8), 4);
        dues.due("size", x.sheet(0, 0, -1), SIZE);
        dues.due("count(8)", x.count(8), 5);
        dues.due("bad is none", x.lose(9) + x.back() + x.bears(0), -7);
        dues.due("count(8)", x.count(8), 5);
        x.clear();
        x.add(0, 0, 0, 0);
        x.digest();
        dues.due("it stays", x.count(8), 5);
        dues.due("asked again", x.count(8), 5);
        dues.due("of a new object", new LoanPoints().count(8), 0);
    }
}
