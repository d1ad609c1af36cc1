import java.util.ArrayList;
import java.util.Comparator;
import java.util.HashSet;
import java.util.List;
import java.util.Set;
import java.util.TreeMap;
import java.util.TreeSet;

/**
 * The document's terms, word by word and slowly: sets, searches and objects in place of the bits
 * and rows of LoanPoints, so that a slip in one of them shows as a difference.
 */
final class Oracle {
    static final int VALUE = 24;
    final List<int[]> code;

    Oracle(List<int[]> code) {
        this.code = code;
    }

    // ---- a statement's own words

    int kind(int p) {
        int told = code.get(p)[0];
        return told == 5 && path(p) >= 3 ? 4 : told;
    }

    int x(int p) {
        return code.get(p)[1];
    }

    int place(int p) {
        return code.get(p)[2];
    }

    int owner(int p) {
        return place(p) / 6;
    }

    int path(int p) {
        return place(p) % 6;
    }

    boolean lends(int p) {
        return Set.of(3, 4, 5).contains(kind(p));
    }

    boolean goesThrough(int p, int v) {
        return Set.of(1, 2, 3, 4, 5).contains(kind(p)) && path(p) >= 3 && owner(p) == v;
    }

    boolean reads(int p, int v) {
        return owner(p) == v && (kind(p) == 1 || kind(p) == 6 || goesThrough(p, v));
    }

    boolean writes(int p, int v) {
        switch (kind(p)) {
            case 2: return owner(p) == v && path(p) < 3;
            case 3: case 4: case 5: return x(p) == v;
            case 6: return x(p) == v || owner(p) == v;
            default: return false;
        }
    }

    TreeSet<Integer> next(int p) {
        TreeSet<Integer> out = new TreeSet<>();
        int k = kind(p);
        if (k == 7 || k == 8) {
            out.add(code.get(p)[3]);
        }
        if (k != 8 && k != 9) {
            out.add(p + 1);
        }
        out.removeIf(q -> q >= code.size());
        return out;
    }

    // ---- what is found

    Set<Integer> reached() {
        Set<Integer> seen = new HashSet<>();
        if (!code.isEmpty()) {
            reach(0, seen);
        }
        return seen;
    }

    private void reach(int p, Set<Integer> seen) {
        if (seen.add(p)) {
            for (int q : next(p)) {
                reach(q, seen);
            }
        }
    }

    boolean live(int v, int p) {
        return live(v, p, new HashSet<>());
    }

    private boolean live(int v, int p, Set<Integer> tried) {
        if (!tried.add(p)) {
            return false;
        }
        if (reads(p, v)) {
            return true;
        }
        if (writes(p, v)) {
            return false;
        }
        for (int q : next(p)) {
            if (live(v, q, tried)) {
                return true;
            }
        }
        return false;
    }

    /** x's region flows to the region of the variables from which x may have what it is, step by step. */
    Set<Integer> region(int v) {
        Set<Integer> heirs = new HashSet<>();
        heirs.add(v);
        Set<Integer> at = reached();
        for (boolean more = true; more;) {
            more = false;
            for (int p : at) {
                boolean hands = kind(p) == 6 || lends(p) && path(p) >= 3;
                if (hands && heirs.contains(owner(p))) {
                    more |= heirs.add(x(p));
                }
            }
        }
        Set<Integer> out = new HashSet<>();
        for (int p : at) {
            for (int heir : heirs) {
                if (live(heir, p)) {
                    out.add(p);
                }
            }
        }
        return out;
    }

    Set<Integer> loans() {
        Set<Integer> out = new TreeSet<>(reached());
        out.removeIf(p -> !lends(p));
        return out;
    }

    private Set<List<Integer>> facts;

    /** Single facts (point, variable, what it may be), each carried on by itself. */
    Set<Integer> holds(int p, int v) {
        if (facts == null) {
            facts = new HashSet<>();
            if (!code.isEmpty()) {
                for (int u = 0; u < 8; u++) {
                    carry(0, u, VALUE);
                }
            }
        }
        Set<Integer> out = new HashSet<>();
        for (List<Integer> f : facts) {
            if (f.get(0) == p && f.get(1) == v) {
                out.add(f.get(2));
            }
        }
        return out;
    }

    private void carry(int p, int v, int what) {
        if (!facts.add(List.of(p, v, what))) {
            return;
        }
        int k = kind(p);
        for (int q : next(p)) {
            if (lends(p)) {
                carry(q, x(p), p);
                if (v != x(p)) {
                    carry(q, v, what);
                }
            } else if (k == 2 && path(p) < 3) {
                carry(q, owner(p), VALUE);
                if (v != owner(p)) {
                    carry(q, v, what);
                }
            } else if (k == 6 && owner(p) != x(p)) {
                carry(q, owner(p), VALUE);
                if (v == owner(p)) {
                    carry(q, x(p), what);
                } else if (v != x(p)) {
                    carry(q, v, what);
                }
            } else {
                carry(q, v, what);
            }
        }
    }

    boolean kills(int p, int loan) {
        return path(loan) >= 3 && writes(p, owner(loan));
    }

    /** States (point, has it been gone through) that a way from the loan comes to. */
    private Set<List<Integer>> ways(int loan) {
        Set<List<Integer>> seen = new HashSet<>();
        if (!loans().contains(loan) || path(loan) >= 3 && owner(loan) == x(loan)) {
            return seen;
        }
        Set<Integer> region = region(x(loan));
        for (int q : next(loan)) {
            wander(loan, q, 0, region, seen);
        }
        return seen;
    }

    private void wander(int loan, int p, int flag, Set<Integer> region, Set<List<Integer>> seen) {
        if (!region.contains(p) || !seen.add(List.of(p, flag)) || kills(p, loan)) {
            return;
        }
        int now = flag;
        for (int v = 0; v < 8; v++) {
            if (goesThrough(p, v) && holds(p, v).contains(loan)) {
                now = 1;
            }
        }
        for (int q : next(p)) {
            wander(loan, q, now, region, seen);
        }
    }

    private final TreeMap<Integer, Set<List<Integer>>> known = new TreeMap<>();

    boolean inScope(int loan, int p) {
        Set<List<Integer>> w = known.computeIfAbsent(loan, this::ways);
        return w.contains(List.of(p, 0)) || w.contains(List.of(p, 1));
    }

    boolean active(int loan, int p) {
        return kind(loan) == 5 && known.computeIfAbsent(loan, this::ways).contains(List.of(p, 1));
    }

    Set<Integer> bears(int loan) {
        Set<Integer> out = new HashSet<>();
        out.add(x(loan));
        for (boolean more = true; more;) {
            more = false;
            for (int p : reached()) {
                if ((kind(p) == 6 || lends(p) && path(p) >= 3) && out.contains(owner(p))) {
                    more |= out.add(x(p));
                }
            }
        }
        return out;
    }

    // ---- errors

    static boolean overlap(int a, int b) {
        int pa = a % 6;
        int pb = b % 6;
        return a / 6 == b / 6 && (pa == pb || pa == 0 || pb == 0 || pa >= 3 && pb >= 3);
    }

    /** An access: place, flat, for writing, the loan that it does not clash with, the loan against which it writes. */
    private record Access(int place, boolean flat, boolean writing, int spared, int own) { }

    private List<Access> accesses(int p) {
        List<Access> out = new ArrayList<>();
        switch (kind(p)) {
            case 1: case 3: out.add(new Access(place(p), false, false, -1, -1)); break;
            case 5: out.add(new Access(place(p), false, false, -1, p)); break;
            case 2: out.add(new Access(place(p), true, true, -1, -1)); break;
            case 4: out.add(new Access(place(p), false, true, -1, -1)); break;
            case 6: out.add(new Access(6 * owner(p), false, true, -1, -1)); break;
            default: break;
        }
        if (lends(p) || kind(p) == 6) {
            out.add(new Access(6 * x(p), true, true, -1, -1));
        }
        for (int v = 0; v < 8; v++) {
            if (goesThrough(p, v)) {
                for (int loan : holds(p, v)) {
                    if (loan != VALUE && kind(loan) == 5) {
                        out.add(new Access(place(loan), false, true, loan, -1));
                    }
                }
            }
        }
        return out;
    }

    private boolean clashes(int p, int loan) {
        for (Access a : accesses(p)) {
            boolean writing = a.writing || a.own == loan;
            boolean exclusive = kind(loan) == 4 || active(loan, p);
            boolean passes = a.flat && path(loan) >= 3 && a.place % 6 < 3;
            if (a.spared != loan && overlap(a.place, place(loan)) && (writing || exclusive) && !passes) {
                return true;
            }
        }
        return false;
    }

    private List<int[]> told;

    List<int[]> errors() {
        if (told != null) {
            return told;
        }
        TreeSet<int[]> out = new TreeSet<>(Comparator.<int[]>comparingInt(e -> e[0])
            .thenComparingInt(e -> e[1]).thenComparingInt(e -> e[2]));
        for (int p : reached()) {
            for (int loan : loans()) {
                if (inScope(loan, p) && clashes(p, loan)) {
                    out.add(new int[] {p, 0, loan});
                }
            }
            for (int v = 0; v < 8; v++) {
                for (int what : holds(p, v)) {
                    boolean through = goesThrough(p, v);
                    if (through && what == VALUE) {
                        out.add(new int[] {p, 1, v});
                    }
                    if (through && what != VALUE && kind(what) == 3 && Set.of(2, 4, 5).contains(kind(p))) {
                        out.add(new int[] {p, 2, what});
                    }
                    if (lends(p) && path(p) < 3 && owner(p) == v && what != VALUE) {
                        out.add(new int[] {p, 3, v});
                    }
                }
            }
        }
        told = new ArrayList<>(out);
        return told;
    }

    List<Integer> witness(int i) {
        int[] e = errors().get(i);
        int loan = e[2];
        Set<Integer> region = region(x(loan));
        Set<Integer> pass = new HashSet<>();
        Set<Integer> uses = new HashSet<>();
        for (int p = 0; p < code.size(); p++) {
            if (region.contains(p) && !kills(p, loan)) {
                pass.add(p);
            }
            for (int v : bears(loan)) {
                if (reads(p, v)) {
                    uses.add(p);
                }
            }
        }
        List<Integer> out = new ArrayList<>();
        out.add(loan);
        out.addAll(least(loan, Set.of(e[0]), pass));
        out.addAll(least(e[0], uses, reached()));
        return out;
    }

    /** The shortest way to a goal (without its start), of like ones the least: by the best way to each point, length by length. */
    private List<Integer> least(int start, Set<Integer> goals, Set<Integer> pass) {
        List<List<Integer>> ways = new ArrayList<>();
        for (int q : next(start)) {
            ways.add(List.of(q));
        }
        for (int length = 1; length <= 30 && !ways.isEmpty(); length++) {
            ways.sort(Oracle::compareWays);
            List<List<Integer>> longer = new ArrayList<>();
            Set<Integer> ends = new HashSet<>();
            for (List<Integer> way : ways) {
                int last = way.get(way.size() - 1);
                if (goals.contains(last)) {
                    return way;
                }
                if (ends.add(last) && pass.contains(last)) {
                    for (int q : next(last)) {
                        List<Integer> more = new ArrayList<>(way);
                        more.add(q);
                        longer.add(more);
                    }
                }
            }
            ways = longer;
        }
        return List.of();
    }

    private static int compareWays(List<Integer> a, List<Integer> b) {
        for (int i = 0; i < a.size(); i++) {
            if (!a.get(i).equals(b.get(i))) {
                return a.get(i) - b.get(i);
            }
        }
        return 0;
    }

    // ---- plans, runs

    private Oracle with(int p, int kind) {
        List<int[]> other = new ArrayList<>(code);
        int[] s = other.get(p).clone();
        s[0] = kind;
        other.set(p, s);
        return new Oracle(other);
    }

    int[] mend() {
        int[] best = {-1, -1};
        for (int p = 0; p < code.size(); p++) {
            int many = with(p, 0).errors().size();
            if (best[0] < 0 || many < best[1]) {
                best = new int[] {p, many};
            }
        }
        return best;
    }

    Set<Integer> soft() {
        Set<Integer> out = new HashSet<>();
        for (int p = 0; p < code.size(); p++) {
            if ((kind(p) == 4 || kind(p) == 5) && with(p, 3).errors().size() <= errors().size()) {
                out.add(p);
            }
        }
        return out;
    }

    private static final class Ref {
        int kind;
        int variable;
        int part;
        Ref from;
        boolean fresh = true;
        boolean active = false;

        boolean isOrComesFrom(Ref other) {
            for (Ref r = this; r != null; r = r.from) {
                if (r == other) {
                    return true;
                }
            }
            return false;
        }
    }

    private List<Ref> refs;

    /** The point of the first bad one, why, how many are done. */
    int[] run(int choices, int steps) {
        refs = new ArrayList<>();
        Ref[] vars = new Ref[8];
        int p = 0;
        int maybes = 0;
        for (int done = 1; done <= steps; done++) {
            if (p < 0 || p >= code.size()) {
                return new int[] {-1, -1, done - 1};
            }
            int why = why(p, vars);
            if (why != 0) {
                return new int[] {p, why, done};
            }
            act(p, vars);
            int k = kind(p);
            if (k == 7) {
                int bit = maybes++ % 31;
                p = (choices & 1 << bit) != 0 ? code.get(p)[3] : p + 1;
            } else {
                p = k == 8 ? code.get(p)[3] : k == 9 ? -1 : p + 1;
            }
        }
        return new int[] {-1, -1, steps};
    }

    private int why(int p, Ref[] vars) {
        Ref ref = vars[owner(p)];
        boolean through = goesThrough(p, owner(p));
        if (through && ref == null) {
            return 1;
        }
        if (through) {
            for (Ref r = ref; r != null; r = r.from) {
                if (!r.fresh) {
                    return 2;
                }
            }
            for (Ref r = ref; r != null; r = r.from) {
                if (r.kind == 3 && Set.of(2, 4, 5).contains(kind(p))) {
                    return 3;
                }
            }
        }
        return lends(p) && path(p) < 3 && ref != null ? 4 : 0;
    }

    private void act(int p, Ref[] vars) {
        int k = kind(p);
        Ref by = goesThrough(p, owner(p)) ? vars[owner(p)] : null;
        if (by != null && by.kind == 5 && !by.active) {
            access(by.variable, by.part, true, by);
            by.active = true;
        }
        int variable = by == null ? owner(p) : by.variable;
        int part = by == null ? path(p) : by.part;
        if (by != null && by.part == 0 && path(p) > 3) {
            part = path(p) == 4 ? 1 : 2;
        }
        if (k == 1 || k == 3 || k == 5) {
            access(variable, part, false, by);
        }
        if (k == 2 || k == 4) {
            access(variable, part, true, by);
        }
        if (k == 6) {
            access(owner(p), 0, true, null);
        }
        if (lends(p) || k == 6) {
            access(x(p), 0, true, null);
        }
        if (k == 2 && path(p) < 3) {
            vars[owner(p)] = null;
        }
        if (lends(p)) {
            Ref made = new Ref();
            made.kind = k;
            made.variable = variable;
            made.part = part;
            made.from = by;
            refs.add(made);
            vars[x(p)] = made;
        }
        if (k == 6 && x(p) != owner(p)) {
            vars[x(p)] = vars[owner(p)];
            vars[owner(p)] = null;
        }
    }

    private void access(int variable, int part, boolean writing, Ref by) {
        for (Ref r : refs) {
            boolean meets = r.variable == variable && (r.part == 0 || part == 0 || r.part == part);
            boolean spared = by != null && by.isOrComesFrom(r);
            if (meets && !spared && (writing || r.kind == 4 || r.kind == 5 && r.active)) {
                r.fresh = false;
            }
        }
    }
}
