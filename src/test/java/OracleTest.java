import java.util.ArrayList;
import java.util.Collection;
import java.util.List;
import java.util.Random;
import java.util.Set;
import java.util.function.IntPredicate;

/** Random programs (of a fixed seed): every answer of promises 6 and 8 to 22, 28 to 30 against the oracle's. */
public final class OracleTest {
    private static int calls = 0;
    private static int wrong = 0;
    private static int accepted = 0;
    private static int witnesses = 0;
    private static int badRuns = 0;
    private static int lateBadRuns = 0;

    public static void main(String[] args) {
        Random random = new Random(20261117L);
        for (int round = 0; round < 2500 && wrong < 20; round++) {
            LoanPoints points = new LoanPoints();
            List<int[]> code = new ArrayList<>();
            int size = round % 5 == 0 ? random.nextInt(25) : 1 + random.nextInt(14);
            for (int p = 0; p < size; p++) {
                int[] s = round % 3 == 0 ? anyStatement(random, size) : likelyStatement(random, size);
                code.add(s);
                points.add(s[0], s[1], s[2], s[3]);
            }
            compare(round, points, new Oracle(code));
            change(random, points, code);
            compare(round, points, new Oracle(code));
        }
        changesLeaveNothingBehind(random);
        runsOfAcceptedProgramsAreNeverBad(random);
        longRuns(random);
        // a generator that never comes to the point would let all of this pass
        due(-1, "programs are accepted", accepted > 100 ? 1 : 0, 1);
        due(-1, "clashes have witnesses", witnesses > 500 ? 1 : 0, 1);
        due(-1, "runs are bad", badRuns > 500 ? 1 : 0, 1);
        due(-1, "runs are bad late", lateBadRuns > 500 ? 1 : 0, 1);
        System.out.println("OracleTest: " + calls + " answers, " + wrong + " not as due");
        if (wrong != 0) {
            System.exit(1);
        }
    }

    private static int[] anyStatement(Random random, int size) {
        return new int[] {random.nextInt(10), random.nextInt(8), random.nextInt(48), random.nextInt(24)};
    }

    /** Of few variables, with jumps that land inside: loans meet, loops close. */
    private static int[] likelyStatement(Random random, int size) {
        int target = random.nextInt(Math.min(24, size + 1));
        int value = random.nextInt(2);
        int reference = 2 + random.nextInt(3);
        int part = random.nextInt(3);
        int deep = 6 * (2 + random.nextInt(3)) + 3 + random.nextInt(3);
        switch (random.nextInt(12)) {
            case 0: return new int[] {1, 0, deep, 0};
            case 1: return new int[] {2, 0, deep, 0};
            case 2: case 3: case 4: return new int[] {3 + random.nextInt(3), reference, 6 * value + part, 0};
            case 5: case 6: return new int[] {3 + random.nextInt(3), reference, deep, 0};
            case 7: return new int[] {6, reference, deep, 0};
            case 8: return new int[] {7, 0, 0, target};
            case 9: return new int[] {random.nextInt(4) == 0 ? 8 : 7, 0, 0, target};
            case 10: return new int[] {1 + random.nextInt(2), 0, 6 * value + part, 0};
            default: return new int[] {random.nextInt(10), random.nextInt(5), random.nextInt(30), target};
        }
    }

    private static void change(Random random, LoanPoints points, List<int[]> code) {
        if (code.isEmpty()) {
            return;
        }
        if (random.nextBoolean()) {
            code.remove(code.size() - 1);
            points.back();
            return;
        }
        int p = random.nextInt(code.size());
        int[] s = likelyStatement(random, code.size());
        code.set(p, s);
        points.alter(p, s[0], s[1], s[2], s[3]);
    }

    private static void compare(int round, LoanPoints points, Oracle oracle) {
        int size = oracle.code.size();
        Set<Integer> reached = oracle.reached();
        due(round, "reached", points.reached(), bits(reached));
        due(round, "loans", points.loans(), bits(oracle.loans()));
        due(round, "count 0", points.count(0), size);
        due(round, "count 1", points.count(1), reached.size());
        due(round, "count 2", points.count(2), oracle.loans().size());
        for (int x = 0; x < 8; x++) {
            int v = x;
            due(round, "live " + x, points.live(x), bitsIf(size, p -> oracle.live(v, p)));
            due(round, "region " + x, points.region(x), bits(oracle.region(x)));
        }
        for (int p = 0; p < size; p++) {
            comparePoint(round, points, oracle, p);
        }
        compareErrors(round, points, oracle);
        int[] mend = oracle.mend();
        due(round, "mend 0", points.mend(0), mend[0]);
        due(round, "mend 1", points.mend(1), mend[1]);
        due(round, "soft", points.soft(), bits(oracle.soft()));
        int[] choices = {0, 1, 5, -1, Integer.MAX_VALUE, 0x55555555, 0x2b3c9d17};
        int[] steps = {60, 0, 1, 7, 300, 100, 37};
        for (int c = 0; c < choices.length; c++) {
            int[] run = oracle.run(choices[c], steps[c]);
            badRuns += run[0] >= 0 ? 1 : 0;
            for (int what = 0; what < 3; what++) {
                due(round, "run " + choices[c] + " " + what, points.run(choices[c], steps[c], what), run[what]);
            }
        }
        due(round, "digest", points.digest(), digest(oracle));
    }

    private static void comparePoint(int round, LoanPoints points, Oracle oracle, int p) {
        for (int what = 0; what < 4; what++) {
            due(round, "code", points.code(p, what), oracle.code.get(p)[what]);
        }
        due(round, "next " + p, points.next(p), bits(oracle.next(p)));
        for (int x = 0; x < 8; x++) {
            due(round, "holds " + p + " " + x, points.holds(p, x), bits(oracle.holds(p, x)));
        }
        due(round, "scope " + p, points.scope(p), bitsIf(24, loan -> loan < oracle.code.size() && oracle.inScope(loan, p)));
        due(round, "active " + p, points.active(p), bitsIf(24, loan -> loan < oracle.code.size() && oracle.active(loan, p)));
        due(round, "bears " + p, points.bears(p), oracle.loans().contains(p) ? bits(oracle.bears(p)) : LoanPoints.NOT);
    }

    private static void compareErrors(int round, LoanPoints points, Oracle oracle) {
        List<int[]> errors = oracle.errors();
        due(round, "errors", points.errors(), errors.size());
        due(round, "count 3", points.count(3), errors.size());
        for (int kind = 0; kind < 4; kind++) {
            int k = kind;
            due(round, "count of kind", points.count(4 + kind), errors.stream().filter(e -> e[1] == k).count());
        }
        points.sheet(0, 0, 60);
        due(round, "write", points.write(0), Math.min(60, errors.size()));
        for (int i = 0; i < errors.size() + 2; i++) {
            boolean there = i < errors.size();
            for (int what = 0; what < 3; what++) {
                due(round, "error " + i + " " + what, points.error(i, what), there ? errors.get(i)[what] : LoanPoints.NONE);
            }
            if (there && errors.get(i)[1] == 0) {
                List<Integer> witness = oracle.witness(i);
                witnesses++;
                due(round, "witness " + i, points.witness(i, -1), witness.size());
                for (int j = 0; j < witness.size() + 1; j++) {
                    due(round, "witness " + i + " " + j, points.witness(i, j), j < witness.size() ? witness.get(j) : LoanPoints.NONE);
                }
            } else {
                due(round, "witness " + i, points.witness(i, -1), LoanPoints.NOT);
            }
            if (i < 60) {
                due(round, "written " + i, points.get(0, 0, i), there ? errors.get(i)[0] : 0);
            }
        }
    }

    private static long digest(Oracle o) {
        List<Long> all = new ArrayList<>();
        int size = o.code.size();
        all.add((long) size);
        all.add((long) o.reached().size());
        all.add((long) o.loans().size());
        all.add((long) o.errors().size());
        for (int kind = 0; kind < 4; kind++) {
            int k = kind;
            all.add(o.errors().stream().filter(e -> e[1] == k).count());
        }
        all.add((long) bits(o.reached()));
        all.add((long) bits(o.loans()));
        for (int x = 0; x < 8; x++) {
            int v = x;
            all.add((long) bitsIf(size, p -> o.live(v, p)));
            all.add((long) bits(o.region(x)));
        }
        for (int p = 0; p < size; p++) {
            int point = p;
            for (int what = 0; what < 4; what++) {
                all.add((long) o.code.get(p)[what]);
            }
            all.add((long) bits(o.next(p)));
            for (int x = 0; x < 8; x++) {
                all.add((long) bits(o.holds(p, x)));
            }
            all.add((long) bitsIf(size, loan -> o.inScope(loan, point)));
            all.add((long) bitsIf(size, loan -> o.active(loan, point)));
            all.add(o.loans().contains(p) ? bits(o.bears(p)) : -3L);
        }
        for (int i = 0; i < 30; i++) {
            boolean there = i < o.errors().size();
            for (int what = 0; what < 3; what++) {
                all.add(there ? o.errors().get(i)[what] : -1L);
            }
            boolean clash = there && o.errors().get(i)[1] == 0;
            all.add(clash ? o.witness(i).size() : -3L);
            all.add(clash ? o.witness(i).get(1) : -3L);
        }
        all.add((long) o.mend()[0]);
        all.add((long) o.mend()[1]);
        all.add((long) bits(o.soft()));
        for (int choices : new int[] {0, 5, 2147483647}) {
            for (int what = 0; what < 3; what++) {
                all.add((long) o.run(choices, 60)[what]);
            }
        }
        long h = 17;
        for (long answer : all) {
            h = 31 * h + answer;
        }
        return h;
    }

    /** An object that was changed and asked all along answers as a new one with the same statements. */
    private static void changesLeaveNothingBehind(Random random) {
        for (int round = 0; round < 400; round++) {
            LoanPoints points = new LoanPoints();
            List<int[]> code = new ArrayList<>();
            int turned = random.nextInt(8);
            for (int step = 0; step < 60; step++) {
                int[] s = random.nextInt(5) == 0 ? anyStatement(random, 24) : likelyStatement(random, 10);
                // the likely variables are few: turned, each of the eight is a reference in some round
                s[1] = (s[1] + turned) % 8;
                s[2] = (s[2] + 6 * turned) % 48;
                if (code.size() < 4 || code.size() < 24 && random.nextInt(4) == 0) {
                    code.add(s);
                    points.add(s[0], s[1], s[2], s[3]);
                } else if (random.nextInt(4) == 0) {
                    code.remove(code.size() - 1);
                    points.back();
                } else {
                    int p = random.nextInt(code.size());
                    code.set(p, s);
                    points.alter(p, s[0], s[1], s[2], s[3]);
                }
                LoanPoints other = new LoanPoints();
                for (int[] told : code) {
                    other.add(told[0], told[1], told[2], told[3]);
                }
                due(round, "digest behind changes", points.digest(), other.digest());
            }
        }
    }

    /** What the two halves of the document are for: a program without errors has no run that is bad. */
    private static void runsOfAcceptedProgramsAreNeverBad(Random random) {
        for (int round = 0; round < 40000; round++) {
            LoanPoints points = new LoanPoints();
            int size = 6 + random.nextInt(10);
            for (int tries = 0; points.count(0) < size && tries < 50; tries++) {
                int before = points.errors();
                int[] s = likelyStatement(random, size);
                points.add(s[0], s[1], s[2], s[3]);
                if (points.errors() > before) {
                    points.back();
                }
            }
            if (points.errors() == 0) {
                accepted++;
                for (int c = 0; c < 6; c++) {
                    due(round, "a run of an accepted program", points.run(random.nextInt(), 100, 0), LoanPoints.NONE);
                }
            }
        }
    }

    /** Programs that two choices run without harm: by others they go far, and what is stale is met late. */
    private static void longRuns(Random random) {
        for (int round = 0; round < 6000; round++) {
            LoanPoints points = new LoanPoints();
            List<int[]> code = new ArrayList<>();
            int size = 4 + random.nextInt(21);
            for (int tries = 0; code.size() < size && tries < 120; tries++) {
                int[] s = likelyStatement(random, size);
                points.add(s[0], s[1], s[2], s[3]);
                if (points.run(0, 300, 0) == LoanPoints.NONE && points.run(Integer.MAX_VALUE, 300, 0) == LoanPoints.NONE) {
                    code.add(s);
                } else {
                    points.back();
                }
            }
            Oracle oracle = new Oracle(code);
            for (int c = 0; c < 6; c++) {
                int choices = random.nextInt();
                int steps = c < 3 ? 300 : random.nextInt(301);
                int[] run = oracle.run(choices, steps);
                lateBadRuns += run[0] >= 0 && run[2] > 12 ? 1 : 0;
                for (int what = 0; what < 3; what++) {
                    due(round, "a long run " + what, points.run(choices, steps, what), run[what]);
                }
            }
        }
    }

    private static int bits(Collection<Integer> numbers) {
        int out = 0;
        for (int n : numbers) {
            out |= 1 << n;
        }
        return out;
    }

    private static int bitsIf(int below, IntPredicate test) {
        int out = 0;
        for (int n = 0; n < below; n++) {
            out |= test.test(n) ? 1 << n : 0;
        }
        return out;
    }

    private static void due(int round, String call, long got, long want) {
        calls++;
        if (got != want) {
            wrong++;
            System.out.println("round " + round + ": " + call + " answered " + got + ", due is " + want);
        }
    }
}
