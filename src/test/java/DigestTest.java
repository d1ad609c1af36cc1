import java.math.BigInteger;
import java.util.ArrayList;
import java.util.List;

/** Promise 30: the digest, against whole numbers that never wrap, cut to 64 bits at the end. */
public final class DigestTest {
    private static final Dues dues = new Dues("DigestTest");
    private static final int SKIP = 0, USE = 1, SET = 2, SHARE = 3, TAKE = 4, PLAN = 5, MOVE = 6, MAYBE = 7, GO = 8, STOP = 9;

    public static void main(String[] args) {
        none();
        oneStatement();
        wraps();
        eachAnswerCounts();
        whatDoesNotCount();
        dues.end();
    }

    private static BigInteger sum(List<Long> answers) {
        BigInteger h = BigInteger.valueOf(17);
        for (long answer : answers) {
            h = h.multiply(BigInteger.valueOf(31)).add(BigInteger.valueOf(answer));
        }
        return h;
    }

    private static void put(List<Long> all, int times, long... answers) {
        for (int i = 0; i < times; i++) {
            for (long answer : answers) {
                all.add(answer);
            }
        }
    }

    private static void none() {
        dues.sentence("digest of no STATEMENTS");
        List<Long> all = new ArrayList<>();
        put(all, 8, 0);
        put(all, 2, 0);
        put(all, 16, 0);
        put(all, 30, -1, -1, -1, -3, -3);
        put(all, 1, -1, -1, 0);
        put(all, 3, -1, -1, 0);
        dues.due("digest", new LoanPoints().digest(), sum(all).longValue());
    }

    private static void oneStatement() {
        dues.sentence("digest of one STATEMENT, its answers written out");
        // USE of what 7 refers to, which is no reference
        LoanPoints x = Dues.program(USE, 3, 75, 9);
        List<Long> all = new ArrayList<>();
        put(all, 1, 1, 1, 0, 1, 0, 1, 0, 0);
        put(all, 1, 1, 0);
        put(all, 7, 0, 0);
        put(all, 1, 1, 1);
        put(all, 1, USE, 3, 47, 9);
        put(all, 1, 0);
        put(all, 8, 1 << 24);
        put(all, 1, 0, 0, -3);
        put(all, 1, 0, 1, 7, -3, -3);
        put(all, 29, -1, -1, -1, -3, -3);
        put(all, 1, 0, 0, 0);
        put(all, 3, 0, 1, 1);
        dues.due("digest", x.digest(), sum(all).longValue());
    }

    /** The promise's own list, by the calls that it names. */
    private static List<Long> answers(LoanPoints x) {
        List<Long> all = new ArrayList<>();
        for (int what = 0; what <= 7; what++) {
            put(all, 1, x.count(what));
        }
        put(all, 1, x.reached(), x.loans());
        for (int v = 0; v < 8; v++) {
            put(all, 1, x.live(v), x.region(v));
        }
        for (int p = 0; p < x.count(0); p++) {
            put(all, 1, x.code(p, 0), x.code(p, 1), x.code(p, 2), x.code(p, 3), x.next(p));
            for (int v = 0; v < 8; v++) {
                put(all, 1, x.holds(p, v));
            }
            put(all, 1, x.scope(p), x.active(p), x.bears(p));
        }
        return all;
    }

    private static List<Long> moreAnswers(LoanPoints x) {
        List<Long> all = new ArrayList<>();
        for (int i = 0; i <= 29; i++) {
            put(all, 1, x.error(i, 0), x.error(i, 1), x.error(i, 2), x.witness(i, -1), x.witness(i, 1));
        }
        put(all, 1, x.mend(0), x.mend(1), x.soft());
        for (int choices : new int[] {0, 5, 2147483647}) {
            put(all, 1, x.run(choices, 60, 0), x.run(choices, 60, 1), x.run(choices, 60, 2));
        }
        return all;
    }

    /** Two objects share the asking: neither is asked more than 512 times. */
    private static BigInteger sumOf(int[] code) {
        List<Long> all = answers(Dues.program(code));
        all.addAll(moreAnswers(Dues.program(code)));
        return sum(all);
    }

    private static final int[][] PROGRAMS = {
        {SKIP, 0, 0, 0},
        {TAKE, 1, 0, 0, SET, 0, 0, 0, USE, 0, 13, 0},
        {PLAN, 1, 0, 0, SHARE, 2, 1, 0, MAYBE, 0, 0, 6, SET, 0, 13, 0, USE, 0, 23, 0, GO, 0, 0, 1, TAKE, 2, 20, 0, SET, 0, 2, 0, USE, 0, 13, 0},
        {MAYBE, 7, 75, 0, MOVE, 1, 20, 3, STOP, 0, 0, 0, TAKE, 5, 53, 23},
        {GO, 0, 0, 0}};

    private static int[] long24() {
        int[] code = new int[96];
        for (int p = 0; p < 24; p++) {
            int kind = p < 7 ? SHARE : p < 17 ? SET : p < 23 ? USE : MAYBE;
            System.arraycopy(new int[] {kind, p % 7 + 1, p < 17 ? 0 : 10 * (p - 16) + 3, 0}, 0, code, 4 * p, 4);
        }
        return code;
    }

    private static void wraps() {
        dues.sentence("h is 17; h becomes 31 h and each of: ..; as longs that wrap");
        for (int[] code : PROGRAMS) {
            BigInteger sum = sumOf(code);
            dues.due("it wraps", sum.bitLength() > 64 ? 1 : 0, 1);
            dues.due("digest", Dues.program(code).digest(), sum.longValue());
        }
        BigInteger sum = sumOf(long24());
        dues.due("more than 30 errors", Dues.program(long24()).errors() > 30 ? 1 : 0, 1);
        dues.due("digest of 24", Dues.program(long24()).digest(), sum.longValue());
    }

    private static void eachAnswerCounts() {
        dues.sentence("of POINTS with a STATEMENT code() 0 to 3");
        int[] code = PROGRAMS[2];
        long before = Dues.program(code).digest();
        int[][] unnamed = {{3, 5}, {9, 3}, {10, 71}, {13, 7}, {20, 6}, {22, 11}};
        for (int[] u : unnamed) {
            int[] other = code.clone();
            other[u[0]] = u[1];
            dues.due("number " + u[0] + " counts", Dues.program(other).digest() == before ? 1 : 0, 0);
            dues.due("digest", Dues.program(other).digest(), sumOf(other).longValue());
        }
    }

    private static void whatDoesNotCount() {
        dues.sentence("count() 0 to 7: the FINDING is not in it, nor are the SHEETS");
        LoanPoints x = Dues.program(PROGRAMS[2]);
        long before = x.digest();
        x.lose(0);
        dues.due("behind a finding", x.digest(), before);
        x.sheet(0, 2, 60);
        x.put(0, 2, 0, 9);
        x.write(0);
        dues.due("behind a sheet", x.digest(), before);
        dues.due("it changes nothing", x.count(8), 1);
        x.add(SKIP, 0, 0, 0);
        x.back();
        dues.due("there and back", x.digest(), before);
    }
}
