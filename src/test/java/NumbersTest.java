import java.util.function.IntUnaryOperator;
import java.util.function.Supplier;
import java.util.function.ToIntBiFunction;

/** Each number of each call: the least and the greatest that may be are taken, the one below and the one above are not. */
public final class NumbersTest {
    private static final Dues dues = new Dues("NumbersTest");
    private static final int LEAST = Integer.MIN_VALUE, MOST = Integer.MAX_VALUE;
    private static final int USE = 1, SHARE = 3, TAKE = 4, MAYBE = 7;
    private static final int BAD = -2, SIZE = -15;

    public static void main(String[] args) {
        addAndAlter();
        read();
        pointsOfEachLength();
        variables();
        whats();
        errorsAndWitnesses();
        steps();
        sheets();
        dues.end();
    }

    /** A call on a new object for each number: least to most are not refused, all others are. */
    private static void range(String call, int least, int most, int refusal, IntUnaryOperator answer) {
        for (int number = least; number <= most; number++) {
            dues.due(call + " " + number + " is refused", answer.applyAsInt(number) == refusal ? 1 : 0, 0);
        }
        for (int number : new int[] {least - 1, most + 1, least - 256, most + 256, least - 65536, most + 65536, LEAST, MOST}) {
            dues.due(call + " " + number, answer.applyAsInt(number), refusal);
        }
    }

    private static LoanPoints some() {
        LoanPoints x = Dues.program(TAKE, 1, 0, 0, USE, 0, 0, 0, USE, 0, 13, 0);
        for (int s = 0; s < 4; s++) {
            x.sheet(s, 2, 8);
        }
        return x;
    }

    private static LoanPoints full() {
        LoanPoints x = new LoanPoints();
        for (int p = 0; p < 24; p++) {
            x.add(p % 2 == 0 ? SHARE : MAYBE, 1 + p % 7, 6 * (p % 8), p);
        }
        return x;
    }

    private static void addAndAlter() {
        dues.sentence("each has a KIND, a VARIABLE x, a PLACE p and a TARGET 0 to 23: 0 SKIP; .. 9 STOP");
        range("add: kind", 0, 9, BAD, n -> some().add(n, 0, 0, 0));
        range("alter: kind", 0, 9, BAD, n -> some().alter(0, n, 0, 0, 0));
        dues.sentence("VARIABLES are 0 to 7");
        range("add: x", 0, 7, BAD, n -> some().add(0, n, 0, 0));
        range("alter: x", 0, 7, BAD, n -> some().alter(0, 0, n, 0, 0));
        dues.sentence("A PLACE is a number 0 to 47");
        range("add: place", 0, 47, BAD, n -> some().add(0, 0, n, 0));
        range("alter: place", 0, 47, BAD, n -> some().alter(0, 0, 0, n, 0));
        dues.sentence("a TARGET 0 to 23");
        range("add: target", 0, 23, BAD, n -> some().add(0, 0, 0, n));
        range("alter: target", 0, 23, BAD, n -> some().alter(0, 0, 0, 0, n));
        dues.sentence("add: how many; alter: 1; code: Its KIND (what = 0), VARIABLE (1), PLACE (2), TARGET (3)");
        int[][] ends = {{0, 0, 0, 0}, {9, 7, 47, 23}, {0, 7, 0, 23}, {9, 0, 47, 0}};
        for (int[] e : ends) {
            LoanPoints x = some();
            dues.due("add", x.add(e[0], e[1], e[2], e[3]), 4);
            dues.due("alter", x.alter(0, e[0], e[1], e[2], e[3]), 1);
            for (int what = 0; what < 4; what++) {
                dues.due("code of what was added, " + what, x.code(3, what), e[what]);
                dues.due("code of what was altered, " + what, x.code(0, what), e[what]);
            }
        }
    }

    /** The four numbers of a statement in a sheet of ints: it is read, if each may be. */
    private static int readOf(int which, int number) {
        LoanPoints x = new LoanPoints();
        x.sheet(0, 2, 4);
        x.put(0, 2, which, number);
        int many = x.read(0);
        dues.due("what was read", x.count(0), many);
        if (many == 1) {
            dues.due("code of what was read", x.code(0, which), number);
        }
        return many;
    }

    private static void read() {
        dues.sentence("read: as long as each may be");
        int[] most = {9, 7, 47, 23};
        for (int which = 0; which < 4; which++) {
            int w = which;
            range("read: number " + which, 0, most[which], 0, n -> readOf(w, n));
        }
    }

    /** With every number of statements: the points 0 to the last have one, no others have. */
    private static void pointsOfEachLength() {
        dues.sentence("STATEMENTS, 24 at most, are at POINTS 0 on; BAD: no such thing");
        for (int length = 0; length <= 24; length++) {
            int size = length;
            Supplier<LoanPoints> made = () -> {
                LoanPoints x = full();
                for (int p = 24; p > size; p--) {
                    x.back();
                }
                return x;
            };
            LoanPoints x = made.get();
            String of = " of " + length;
            range("code" + of, 0, length - 1, BAD, p -> x.code(p, 0));
            range("next" + of, 0, length - 1, BAD, x::next);
            range("holds" + of, 0, length - 1, BAD, p -> x.holds(p, 0));
            LoanPoints y = made.get();
            range("scope" + of, 0, length - 1, BAD, y::scope);
            range("active" + of, 0, length - 1, BAD, y::active);
            range("bears" + of, 0, length - 1, BAD, y::bears);
            LoanPoints z = made.get();
            range("alter" + of, 0, length - 1, BAD, p -> z.alter(p, 0, 0, 0, 0));
        }
    }

    private static void variables() {
        dues.sentence("VARIABLES are 0 to 7: live, region, holds");
        range("live", 0, 7, BAD, v -> some().live(v));
        range("region", 0, 7, BAD, v -> some().region(v));
        range("holds", 0, 7, BAD, v -> some().holds(0, v));
    }

    private static void whats() {
        dues.sentence("code: what 0 to 3");
        range("code", 0, 3, BAD, what -> some().code(0, what));
        dues.sentence("error: what 0 to 2");
        range("error", 0, 2, BAD, what -> some().error(0, what));
        range("error of none", 0, 2, BAD, what -> some().error(1, what));
        dues.sentence("mend: what 0, 1");
        range("mend", 0, 1, BAD, what -> some().mend(what));
        range("mend of none", 0, 1, BAD, what -> new LoanPoints().mend(what));
        dues.sentence("run: what 0 to 2");
        range("run", 0, 2, BAD, what -> some().run(0, 9, what));
        range("run of none", 0, 2, BAD, what -> new LoanPoints().run(0, 0, what));
        dues.sentence("count: 0 to 8");
        range("count", 0, 8, BAD, what -> some().count(what));
        range("count of none", 0, 8, BAD, what -> new LoanPoints().count(what));
    }

    private static void errorsAndWitnesses() {
        LoanPoints x = some();
        dues.sentence("error: of the i-th (0 to 999)");
        for (int i : new int[] {-1, 1000, 1001, 65536, LEAST, MOST}) {
            dues.due("error " + i, x.error(i, 0), BAD);
            dues.due("witness " + i, x.witness(i, 0), BAD);
        }
        dues.due("error 0", x.error(0, 0), 1);
        for (int i : new int[] {1, 2, 255, 256, 998, 999}) {
            dues.due("error " + i, x.error(i, 0), -1);
        }
        dues.sentence("witness: of the i-th ERROR (0 to 999): how many POINTS (j = NONE), the j-th (0 to 59; NONE)");
        dues.due("witness, i 0", x.witness(0, 0), 0);
        dues.due("witness, i 999", x.witness(999, 0), -3);
        dues.due("witness, i 998", x.witness(998, -1), -3);
        dues.due("witness, j NONE", x.witness(0, -1), 3);
        dues.due("witness, j 0", x.witness(0, 0), 0);
        dues.due("witness, j 2", x.witness(0, 2), 2);
        for (int j = 3; j <= 59; j++) {
            dues.due("witness, j " + j, x.witness(0, j), -1);
        }
        for (int j : new int[] {-2, -3, 60, 61, 255, LEAST, MOST}) {
            dues.due("witness, j " + j, x.witness(0, j), BAD);
        }
    }

    private static void steps() {
        dues.sentence("run: of at most 0 to 300 STATEMENTS");
        range("run: steps", 0, 300, BAD, steps -> some().run(0, steps, 2));
        dues.sentence("run by CHOICES, of any bits");
        for (int choices : new int[] {0, 1, -1, LEAST, MOST, 1 << 30}) {
            dues.due("run: choices " + choices, some().run(choices, 300, 2), 3);
        }
    }

    private static void sheetsOf(String call, int refusal, ToIntBiFunction<LoanPoints, Integer> answer) {
        range(call + ": sheet", 0, 3, refusal, s -> answer.applyAsInt(some(), s));
    }

    private static void sheets() {
        dues.sentence("SHEETS 0 .. 3");
        sheetsOf("read", BAD, (x, s) -> x.read(s));
        sheetsOf("sheet", BAD, (x, s) -> x.sheet(s, 0, 1));
        sheetsOf("lose", BAD, (x, s) -> x.lose(s));
        sheetsOf("put", BAD, (x, s) -> x.put(s, 2, 0, 1));
        sheetsOf("get", LEAST, (x, s) -> x.get(s, 2, 0));
        sheetsOf("copy from", BAD, (x, s) -> x.copy(s, 0, 0, 0, 1));
        sheetsOf("copy to", BAD, (x, t) -> x.copy(0, 0, t, 0, 1));
        sheetsOf("write", BAD, (x, s) -> x.write(s));
        dues.sentence("a row of a FORM: 0 bytes, 1 shorts, 2 ints");
        range("sheet: form", 0, 2, BAD, form -> some().sheet(0, form, 1));
        range("put: form", 0, 2, BAD, form -> some().put(0, form, 0, 1));
        range("get: form", 2, 2, LEAST, form -> some().get(0, form, 0));
        dues.sentence("of 0 to 60 items; BAD: above 60; SIZE: below 0");
        for (int n = 0; n <= 60; n++) {
            dues.due("sheet: n", some().sheet(0, 0, n), n);
        }
        for (int n : new int[] {61, 62, 64, 256, 65536, MOST}) {
            dues.due("sheet: n " + n, some().sheet(0, 0, n), BAD);
        }
        for (int n : new int[] {-1, -2, -60, -256, LEAST, LEAST + 1}) {
            dues.due("sheet: n " + n, some().sheet(0, 0, n), SIZE);
        }
    }
}
