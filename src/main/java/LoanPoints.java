/** A loan checker for a small language with borrowed places; the document's promises say what each call answers. */
public final class LoanPoints {
    public static final int NONE = -1, BAD = -2, NOT = -3, FULL = -4;

    private static final int VARIABLES = 8, PLACES = 48, PATHS = 6, POINTS = 24, KINDS = 10;
    private static final int SKIP = 0, USE = 1, SET = 2, SHARE = 3, TAKE = 4, PLAN = 5;
    private static final int MOVE = 6, MAYBE = 7, GO = 8, STOP = 9;
    /** The least path that goes through its variable. */
    private static final int DEEP = 3;
    /** The bit of a plain value, beside the bits of loans. */
    private static final int VALUE = 1 << POINTS;
    private static final int CLASH = 0, NO_REFERENCE = 1, FROZEN = 2, NESTED = 3, ERROR_KINDS = 4;
    /** Bounds the rounds of what grows until it rests: a state has some 200 steps at most, so this is never met. */
    private static final int ROUNDS = 1000;
    private static final int FAR = 1000;
    private static final int TRAIL = 60, MOST_ERRORS = 1000, MOST_STEPS = 300, CHOICE_BITS = 31;
    private static final int SHEETS = 4, FORMS = 3, ITEMS = 60;
    private static final int LOST = 1, INDEX = 2, CAST = 3, STORE = 4, SIZE = 5;
    private static final int LEAST_INT = -2147483648, MOST_INT = 2147483647;
    private static final int DIGEST_ERRORS = 30, DIGEST_STEPS = 60;

    private final Listing listing = new Listing();
    private final Check check = new Check(listing);
    private final Plans plans = new Plans(listing, check);
    private final Trail trail = new Trail(listing, check);
    private final Walk walk = new Walk(listing);
    private final Sheet[] sheets = new Sheet[SHEETS];
    private int latestFinding = 0;

    public LoanPoints() {
        for (int s = 0; s < SHEETS; s++) {
            sheets[s] = new Sheet();
        }
    }

    // ---- statements

    public int add(int kind, int x, int place, int target) {
        if (!mayBe(kind, x, place, target)) {
            return BAD;
        }
        if (listing.size >= POINTS) {
            return FULL;
        }
        append(kind, x, place, target);
        return listing.size;
    }

    public int alter(int point, int kind, int x, int place, int target) {
        if (!listing.has(point) || !mayBe(kind, x, place, target)) {
            return BAD;
        }
        listing.fill(point, kind, x, place, target);
        forget();
        return 1;
    }

    public int back() {
        if (listing.size == 0) {
            return NOT;
        }
        listing.size--;
        forget();
        return listing.size;
    }

    public int clear() {
        int before = listing.size;
        listing.size = 0;
        forget();
        return before;
    }

    public int code(int point, int what) {
        if (!listing.has(point)) {
            return BAD;
        }
        switch (what) {
            case 0:
                return listing.kinds[point];
            case 1:
                return listing.xs[point];
            case 2:
                return listing.places[point];
            case 3:
                return listing.targets[point];
            default:
                return BAD;
        }
    }

    public int read(int s) {
        if (!isSheet(s)) {
            return BAD;
        }
        Sheet sheet = sheets[s];
        if (sheet.isLost()) {
            return finding(LOST);
        }
        int taken = 0;
        for (int i = 0; i + 4 <= sheet.size && listing.size < POINTS; i += 4) {
            int[] items = sheet.items;
            if (!mayBe(items[i], items[i + 1], items[i + 2], items[i + 3])) {
                break;
            }
            append(items[i], items[i + 1], items[i + 2], items[i + 3]);
            taken++;
        }
        return taken;
    }

    private static boolean isBetween(int number, int least, int most) {
        return number >= least && number <= most;
    }

    private static boolean isVariable(int x) {
        return isBetween(x, 0, VARIABLES - 1);
    }

    private static boolean mayBe(int kind, int x, int place, int target) {
        return isBetween(kind, 0, KINDS - 1) && isVariable(x)
            && isBetween(place, 0, PLACES - 1) && isBetween(target, 0, POINTS - 1);
    }

    private void append(int kind, int x, int place, int target) {
        listing.fill(listing.size, kind, x, place, target);
        listing.size++;
        forget();
    }

    private void forget() {
        check.forget();
        plans.forget();
        trail.forget();
        walk.forget();
    }

    // ---- what is found

    public int next(int point) {
        if (!listing.has(point)) {
            return BAD;
        }
        Flow flow = check.examine().flow;
        return bitOf(flow.onward[point]) | bitOf(flow.aside[point]);
    }

    public int reached() {
        return check.examine().flow.reachedPoints;
    }

    public int live(int x) {
        return isVariable(x) ? check.examine().flow.livePoints(x) : BAD;
    }

    public int region(int x) {
        return isVariable(x) ? check.examine().flow.regions[x] : BAD;
    }

    public int holds(int point, int x) {
        if (!listing.has(point) || !isVariable(x)) {
            return BAD;
        }
        return check.examine().lending.held[point * VARIABLES + x];
    }

    public int loans() {
        return check.examine().lending.allLoans;
    }

    public int scope(int point) {
        return listing.has(point) ? check.examine().lending.scoped[point] : BAD;
    }

    public int active(int point) {
        return listing.has(point) ? check.examine().lending.activated[point] : BAD;
    }

    public int bears(int point) {
        if (!listing.has(point)) {
            return BAD;
        }
        if (!hasBit(check.examine().lending.allLoans, point)) {
            return NOT;
        }
        return check.flow.bearers(listing, point);
    }

    private static boolean hasBit(int bits, int number) {
        return (bits >> number & 1) == 1;
    }

    private static int bitOf(int number) {
        return number == NONE ? 0 : 1 << number;
    }

    // ---- errors

    public int errors() {
        return check.examine().faults.total;
    }

    public int error(int i, int what) {
        if (!isBetween(i, 0, MOST_ERRORS - 1) || !isBetween(what, 0, 2)) {
            return BAD;
        }
        return check.examine().faults.tell(i, what);
    }

    public int witness(int i, int j) {
        if (!isBetween(i, 0, MOST_ERRORS - 1) || !isBetween(j, NONE, TRAIL - 1)) {
            return BAD;
        }
        if (check.examine().faults.tell(i, 1) != CLASH) {
            return NOT;
        }
        trail.show(i);
        if (j == NONE) {
            return trail.length;
        }
        return j < trail.length ? trail.points[j] : NONE;
    }

    // ---- plans, runs

    public int mend(int what) {
        if (!isBetween(what, 0, 1)) {
            return BAD;
        }
        if (listing.size == 0) {
            return NONE;
        }
        plans.findMend();
        return what == 0 ? plans.mendPoint : plans.mendErrors;
    }

    public int soft() {
        plans.findSoft();
        return plans.softPoints;
    }

    public int run(int choices, int steps, int what) {
        if (!isBetween(steps, 0, MOST_STEPS) || !isBetween(what, 0, 2)) {
            return BAD;
        }
        walk.go(choices, steps);
        if (what == 0) {
            return walk.badPoint;
        }
        return what == 1 ? walk.why : walk.done;
    }

    // ---- sheets

    public int sheet(int s, int form, int n) {
        if (!isSheet(s) || !isForm(form) || n > ITEMS) {
            return BAD;
        }
        if (n < 0) {
            return finding(SIZE);
        }
        sheets[s].renew(form, n);
        return n;
    }

    public int lose(int s) {
        if (!isSheet(s)) {
            return BAD;
        }
        Sheet sheet = sheets[s];
        if (sheet.isLost()) {
            return finding(LOST);
        }
        int before = sheet.size;
        sheet.drop();
        return before;
    }

    public int put(int s, int form, int i, int v) {
        if (!isSheet(s) || !isForm(form)) {
            return BAD;
        }
        int hindrance = sheets[s].hindrance(form, i);
        if (hindrance != 0) {
            return finding(hindrance);
        }
        sheets[s].enter(i, v);
        return 1;
    }

    public int get(int s, int form, int i) {
        if (!isSheet(s) || !isForm(form)) {
            return LEAST_INT;
        }
        int hindrance = sheets[s].hindrance(form, i);
        if (hindrance != 0) {
            latestFinding = hindrance;
            return LEAST_INT;
        }
        return sheets[s].items[i];
    }

    public int copy(int s, int i, int t, int j, int n) {
        if (!isSheet(s) || !isSheet(t)) {
            return BAD;
        }
        Sheet from = sheets[s];
        Sheet to = sheets[t];
        if (from.isLost() || to.isLost()) {
            return finding(LOST);
        }
        if (from.form != to.form) {
            return finding(STORE);
        }
        if (!from.hasRow(i, n) || !to.hasRow(j, n)) {
            return finding(INDEX);
        }
        System.arraycopy(from.items, i, to.items, j, n);
        return 1;
    }

    public int write(int s) {
        if (!isSheet(s)) {
            return BAD;
        }
        Sheet sheet = sheets[s];
        if (sheet.isLost()) {
            return finding(LOST);
        }
        int written = Math.min(sheet.size, check.examine().faults.total);
        for (int i = 0; i < written; i++) {
            sheet.enter(i, check.faults.tell(i, 0));
        }
        return written;
    }

    public int count(int what) {
        switch (what) {
            case 0:
                return listing.size;
            case 1:
                return Integer.bitCount(check.examine().flow.reachedPoints);
            case 2:
                return Integer.bitCount(check.examine().lending.allLoans);
            case 3:
                return check.examine().faults.total;
            case 4:
            case 5:
            case 6:
            case 7:
                return check.examine().faults.totalOf(what - 4);
            case 8:
                return latestFinding;
            default:
                return BAD;
        }
    }

    public long digest() {
        long h = 17;
        for (int what = 0; what <= 7; what++) {
            h = fold(h, count(what));
        }
        h = fold(h, reached());
        h = fold(h, loans());
        for (int x = 0; x < VARIABLES; x++) {
            h = fold(h, live(x));
            h = fold(h, region(x));
        }
        for (int point = 0; point < listing.size; point++) {
            h = foldPoint(h, point);
        }
        for (int i = 0; i < DIGEST_ERRORS; i++) {
            h = foldError(h, i);
        }
        h = fold(h, mend(0));
        h = fold(h, mend(1));
        h = fold(h, soft());
        h = foldRun(h, 0);
        h = foldRun(h, 5);
        return foldRun(h, MOST_INT);
    }

    private static long fold(long h, long answer) {
        return 31 * h + answer;
    }

    private long foldPoint(long before, int point) {
        long h = before;
        for (int what = 0; what <= 3; what++) {
            h = fold(h, code(point, what));
        }
        h = fold(h, next(point));
        for (int x = 0; x < VARIABLES; x++) {
            h = fold(h, holds(point, x));
        }
        h = fold(h, scope(point));
        h = fold(h, active(point));
        return fold(h, bears(point));
    }

    private long foldError(long before, int i) {
        long h = before;
        for (int what = 0; what <= 2; what++) {
            h = fold(h, error(i, what));
        }
        h = fold(h, witness(i, NONE));
        return fold(h, witness(i, 1));
    }

    private long foldRun(long before, int choices) {
        long h = before;
        for (int what = 0; what <= 2; what++) {
            h = fold(h, run(choices, DIGEST_STEPS, what));
        }
        return h;
    }

    private static boolean isSheet(int s) {
        return isBetween(s, 0, SHEETS - 1);
    }

    private static boolean isForm(int form) {
        return isBetween(form, 0, FORMS - 1);
    }

    private int finding(int number) {
        latestFinding = number;
        return -10 - number;
    }

    /** The statements, as they were told, and what follows from a statement alone. */
    private static final class Listing {
        final int[] kinds = new int[POINTS];
        final int[] xs = new int[POINTS];
        final int[] places = new int[POINTS];
        final int[] targets = new int[POINTS];
        /** The kinds that count: a plan through a reference is a take, though code() tells what was told. */
        final int[] acts = new int[POINTS];
        /** The variables and paths of the places. */
        final int[] owners = new int[POINTS];
        final int[] paths = new int[POINTS];
        final boolean[] lends = new boolean[POINTS];
        final boolean[] goesThrough = new boolean[POINTS];
        int size = 0;

        boolean has(int point) {
            return point >= 0 && point < size;
        }

        void fill(int point, int kind, int x, int place, int target) {
            xs[point] = x;
            places[point] = place;
            targets[point] = target;
            owners[point] = place / PATHS;
            paths[point] = place % PATHS;
            turn(point, kind);
        }

        void turn(int point, int kind) {
            boolean deep = paths[point] >= DEEP;
            kinds[point] = kind;
            acts[point] = kind == PLAN && deep ? TAKE : kind;
            lends[point] = kind == SHARE || kind == TAKE || kind == PLAN;
            goesThrough[point] = deep && (lends[point] || kind == USE || kind == SET);
        }
    }

    /** Which points follow, which are reached, where variables are live, and their regions. */
    private static final class Flow {
        /** The points that are next, NONE where there is none. */
        final int[] onward = new int[POINTS];
        final int[] aside = new int[POINTS];
        /** Variables, as bits. */
        final int[] reads = new int[POINTS];
        final int[] writes = new int[POINTS];
        private final int[] liveVariables = new int[POINTS];
        /** The variable whose loans x comes to depend on at a point, NONE where there is none. */
        private final int[] sources = new int[POINTS];
        final int[] regions = new int[VARIABLES];
        private int size = 0;
        int reachedPoints = 0;

        void findNext(Listing listing) {
            size = listing.size;
            for (int point = 0; point < size; point++) {
                int act = listing.acts[point];
                int behind = act == GO || act == STOP ? NONE : point + 1;
                int target = act == GO || act == MAYBE ? listing.targets[point] : NONE;
                onward[point] = listing.has(behind) ? behind : NONE;
                aside[point] = listing.has(target) ? target : NONE;
            }
        }

        void findReached() {
            reachedPoints = size > 0 ? 1 : 0;
            boolean grows = true;
            for (int round = 0; grows && round < ROUNDS; round++) {
                int before = reachedPoints;
                for (int point = 0; point < size; point++) {
                    if (hasBit(reachedPoints, point)) {
                        reachedPoints |= bitOf(onward[point]) | bitOf(aside[point]);
                    }
                }
                grows = reachedPoints != before;
            }
        }

        void findUses(Listing listing) {
            for (int point = 0; point < size; point++) {
                int act = listing.acts[point];
                boolean lends = listing.lends[point];
                boolean through = listing.goesThrough[point];
                int owner = 1 << listing.owners[point];
                int x = 1 << listing.xs[point];
                boolean writesOwner = act == MOVE || act == SET && !through;
                reads[point] = act == USE || act == MOVE || through ? owner : 0;
                writes[point] = (writesOwner ? owner : 0) | (act == MOVE || lends ? x : 0);
                sources[point] = act == MOVE || lends && through ? listing.owners[point] : NONE;
            }
        }

        void findLive() {
            for (int point = 0; point < size; point++) {
                liveVariables[point] = 0;
            }
            boolean grows = true;
            for (int round = 0; grows && round < ROUNDS; round++) {
                grows = false;
                for (int point = size - 1; point >= 0; point--) {
                    int behind = onward[point] == NONE ? 0 : liveVariables[onward[point]];
                    behind |= aside[point] == NONE ? 0 : liveVariables[aside[point]];
                    int found = reads[point] | behind & ~writes[point];
                    if (found != liveVariables[point]) {
                        liveVariables[point] = found;
                        grows = true;
                    }
                }
            }
        }

        void findRegions(Listing listing) {
            for (int x = 0; x < VARIABLES; x++) {
                regions[x] = livePoints(x) & reachedPoints;
            }
            boolean grows = true;
            for (int round = 0; grows && round < ROUNDS; round++) {
                grows = false;
                for (int point = 0; point < size; point++) {
                    int source = sources[point];
                    if (source != NONE && hasBit(reachedPoints, point)) {
                        int found = regions[source] | regions[listing.xs[point]];
                        if (found != regions[source]) {
                            regions[source] = found;
                            grows = true;
                        }
                    }
                }
            }
        }

        int livePoints(int x) {
            int found = 0;
            for (int point = 0; point < size; point++) {
                found |= (liveVariables[point] >> x & 1) << point;
            }
            return found;
        }

        int bearers(Listing listing, int loan) {
            int found = 1 << listing.xs[loan];
            boolean grows = true;
            for (int round = 0; grows && round < ROUNDS; round++) {
                int before = found;
                for (int point = 0; point < size; point++) {
                    int source = sources[point];
                    if (source != NONE && hasBit(reachedPoints, point) && hasBit(found, source)) {
                        found |= 1 << listing.xs[point];
                    }
                }
                grows = found != before;
            }
            return found;
        }
    }

    /** The loans, who may hold them, where they are in scope, and where they may be active. */
    private static final class Lending {
        /** Loans by kind, as bits. */
        int allLoans = 0;
        int shareLoans = 0;
        int takeLoans = 0;
        int planLoans = 0;
        /** What each variable may be ahead of each point: loans and VALUE, as bits. */
        final int[] held = new int[POINTS * VARIABLES];
        private final int[] behind = new int[VARIABLES];
        private int changed = 0;
        /** Loans by points, as bits: in scope, active. */
        final int[] scoped = new int[POINTS];
        final int[] activated = new int[POINTS];
        /** Loans by points, as bits: whom the statement kills, whose region has the point, whose plan it goes through. */
        private final int[] kills = new int[POINTS];
        private final int[] within = new int[POINTS];
        final int[] wakes = new int[POINTS];
        /** Loans by the variable that their place goes through, and by their x. */
        private final int[] throughOwner = new int[VARIABLES];
        private final int[] byX = new int[VARIABLES];

        void findLoans(Listing listing, int reachedPoints) {
            allLoans = 0;
            shareLoans = 0;
            takeLoans = 0;
            planLoans = 0;
            for (int x = 0; x < VARIABLES; x++) {
                throughOwner[x] = 0;
                byX[x] = 0;
            }
            for (int point = 0; point < listing.size; point++) {
                if (listing.lends[point] && hasBit(reachedPoints, point)) {
                    sortLoan(listing, point);
                }
            }
        }

        private void sortLoan(Listing listing, int point) {
            int act = listing.acts[point];
            int loan = 1 << point;
            allLoans |= loan;
            shareLoans |= act == SHARE ? loan : 0;
            takeLoans |= act == TAKE ? loan : 0;
            planLoans |= act == PLAN ? loan : 0;
            boolean through = listing.goesThrough[point];
            int owner = listing.owners[point];
            int x = listing.xs[point];
            if (through) {
                throughOwner[owner] |= loan;
            }
            // a loan through its own x is never in scope, so no region keeps it
            if (!through || owner != x) {
                byX[x] |= loan;
            }
        }

        void findHeld(Listing listing, Flow flow) {
            for (int i = 0; i < listing.size * VARIABLES; i++) {
                held[i] = i < VARIABLES ? VALUE : 0;
            }
            changed = listing.size > 0 ? 1 : 0;
            for (int round = 0; changed != 0 && round < ROUNDS; round++) {
                for (int point = 0; point < listing.size; point++) {
                    if (hasBit(changed, point)) {
                        changed &= ~(1 << point);
                        stepBehind(listing, point);
                        join(flow.onward[point]);
                        join(flow.aside[point]);
                    }
                }
            }
        }

        private void stepBehind(Listing listing, int point) {
            System.arraycopy(held, point * VARIABLES, behind, 0, VARIABLES);
            int act = listing.acts[point];
            int owner = listing.owners[point];
            int x = listing.xs[point];
            if (listing.lends[point]) {
                behind[x] = 1 << point;
            } else if (act == SET && !listing.goesThrough[point]) {
                behind[owner] = VALUE;
            } else if (act == MOVE && owner != x) {
                behind[x] = behind[owner];
                behind[owner] = VALUE;
            }
        }

        private void join(int point) {
            if (point == NONE) {
                return;
            }
            int row = point * VARIABLES;
            for (int x = 0; x < VARIABLES; x++) {
                int found = held[row + x] | behind[x];
                if (found != held[row + x]) {
                    held[row + x] = found;
                    changed |= 1 << point;
                }
            }
        }

        void markPoints(Listing listing, Flow flow) {
            for (int point = 0; point < listing.size; point++) {
                int killed = 0;
                int kept = 0;
                for (int x = 0; x < VARIABLES; x++) {
                    killed |= hasBit(flow.writes[point], x) ? throughOwner[x] : 0;
                    kept |= hasBit(flow.regions[x], point) ? byX[x] : 0;
                }
                kills[point] = killed;
                within[point] = kept;
                wakes[point] = heldThrough(listing, point) & planLoans;
                scoped[point] = 0;
                activated[point] = 0;
            }
        }

        /** What the variable may be through which the statement goes; nothing, if it goes through none. */
        int heldThrough(Listing listing, int point) {
            return listing.goesThrough[point] ? held[point * VARIABLES + listing.owners[point]] : 0;
        }

        void findScopes(Flow flow, int size) {
            boolean grows = true;
            for (int round = 0; grows && round < ROUNDS; round++) {
                grows = false;
                for (int point = 0; point < size; point++) {
                    int left = scoped[point] & ~kills[point];
                    int awake = left & (activated[point] | wakes[point]);
                    int out = left | allLoans & 1 << point;
                    boolean onwardGrows = pass(flow.onward[point], out, awake);
                    boolean asideGrows = pass(flow.aside[point], out, awake);
                    grows = grows || onwardGrows || asideGrows;
                }
            }
        }

        private boolean pass(int point, int out, int awake) {
            if (point == NONE) {
                return false;
            }
            int nowScoped = scoped[point] | out & within[point];
            int nowActive = activated[point] | awake & within[point];
            boolean grows = nowScoped != scoped[point] || nowActive != activated[point];
            scoped[point] = nowScoped;
            activated[point] = nowActive;
            return grows;
        }

        /** The points, as bits, that a way may pass on which a loan stays in scope. */
        int passable(Listing listing, Flow flow, int loan) {
            int found = flow.regions[listing.xs[loan]];
            for (int point = 0; point < listing.size; point++) {
                if (hasBit(kills[point], loan)) {
                    found &= ~(1 << point);
                }
            }
            return found;
        }
    }

    /** The errors of each point, by kinds, as bits of their numbers. */
    private static final class Faults {
        private final int[] byPoint = new int[POINTS * ERROR_KINDS];
        private int size = 0;
        int total = 0;

        void findClashes(Listing listing, Lending lending) {
            for (int point = 0; point < listing.size; point++) {
                int scoped = lending.scoped[point];
                byPoint[point * ERROR_KINDS + CLASH] = scoped == 0 ? 0 : clashes(listing, lending, point);
            }
        }

        /** The accesses of a statement, in the document's order, against the loans that are in scope. */
        private static int clashes(Listing listing, Lending lending, int point) {
            int scoped = lending.scoped[point];
            int act = listing.acts[point];
            int place = listing.places[point];
            int found = 0;
            if (act == USE || act == SHARE || act == PLAN) {
                int exclusive = lending.takeLoans | lending.activated[point];
                found = struck(listing, scoped & exclusive, place, false);
            } else if (act == SET || act == TAKE) {
                found = struck(listing, scoped, place, act == SET);
            } else if (act == MOVE) {
                found = struck(listing, scoped, listing.owners[point] * PATHS, false);
            }
            if (act == PLAN) {
                found |= scoped & 1 << point;
            }
            if (act == MOVE || listing.lends[point]) {
                found |= struck(listing, scoped, listing.xs[point] * PATHS, true);
            }
            int woken = lending.wakes[point];
            for (int loan = 0; woken >> loan != 0 && loan < POINTS; loan++) {
                if ((woken >> loan & 1) == 1) {
                    found |= struck(listing, scoped & ~(1 << loan), listing.places[loan], false);
                }
            }
            return found;
        }

        /** Those of the loans whose places overlap with one; a flat access spares what lies behind a reference. */
        private static int struck(Listing listing, int loans, int place, boolean flat) {
            int owner = place / PATHS;
            int path = place % PATHS;
            int found = 0;
            for (int loan = 0; loans >> loan != 0 && loan < POINTS; loan++) {
                if ((loans >> loan & 1) == 1 && listing.owners[loan] == owner) {
                    int lent = listing.paths[loan];
                    boolean overlap = lent == path || lent == 0 || path == 0 || lent >= DEEP && path >= DEEP;
                    boolean spared = flat && lent >= DEEP && path < DEEP;
                    found |= overlap && !spared ? 1 << loan : 0;
                }
            }
            return found;
        }

        /** What is wrong with what the place's variable may be. A point that is not reached holds nothing. */
        void findMisuses(Listing listing, Lending lending) {
            for (int point = 0; point < listing.size; point++) {
                int act = listing.acts[point];
                int owner = listing.owners[point];
                int through = lending.heldThrough(listing, point);
                boolean writes = act == SET || act == TAKE || act == PLAN;
                boolean lendsWhole = listing.lends[point] && !listing.goesThrough[point];
                int lent = lendsWhole ? lending.held[point * VARIABLES + owner] & ~VALUE : 0;
                int row = point * ERROR_KINDS;
                byPoint[row + NO_REFERENCE] = (through & VALUE) != 0 ? 1 << owner : 0;
                byPoint[row + FROZEN] = writes ? through & lending.shareLoans : 0;
                byPoint[row + NESTED] = lent != 0 ? 1 << owner : 0;
            }
        }

        void addUp(int points) {
            size = points;
            total = 0;
            for (int row = 0; row < size * ERROR_KINDS; row++) {
                total += Integer.bitCount(byPoint[row]);
            }
        }

        int totalOf(int kind) {
            int found = 0;
            for (int point = 0; point < size; point++) {
                found += Integer.bitCount(byPoint[point * ERROR_KINDS + kind]);
            }
            return found;
        }

        /** The point (0), kind (1) or number (2) of the i-th error; NONE, if there are not so many. */
        int tell(int i, int what) {
            int left = i;
            for (int row = 0; row < size * ERROR_KINDS; row++) {
                int many = Integer.bitCount(byPoint[row]);
                if (left < many) {
                    if (what == 0) {
                        return row / ERROR_KINDS;
                    }
                    return what == 1 ? row % ERROR_KINDS : numberOfBit(byPoint[row], left);
                }
                left -= many;
            }
            return NONE;
        }

        /** The number of the i-th bit that is set. */
        private static int numberOfBit(int bits, int i) {
            int left = i;
            for (int number = 0; number < POINTS; number++) {
                if (hasBit(bits, number)) {
                    if (left == 0) {
                        return number;
                    }
                    left--;
                }
            }
            return NONE;
        }
    }

    /** All that is found about the statements of a listing, found once for each state of it. */
    private static final class Check {
        private final Listing listing;
        private boolean known = false;
        final Flow flow = new Flow();
        final Lending lending = new Lending();
        final Faults faults = new Faults();

        Check(Listing listing) {
            this.listing = listing;
        }

        void forget() {
            known = false;
        }

        Check examine() {
            if (!known) {
                flow.findNext(listing);
                flow.findReached();
                flow.findUses(listing);
                flow.findLive();
                flow.findRegions(listing);
                lending.findLoans(listing, flow.reachedPoints);
                lending.findHeld(listing, flow);
                lending.markPoints(listing, flow);
                lending.findScopes(flow, listing.size);
                faults.findClashes(listing, lending);
                faults.findMisuses(listing, lending);
                faults.addUp(listing.size);
                known = true;
            }
            return this;
        }
    }

    /** What would be, if one statement were another. */
    private static final class Plans {
        private final Listing listing;
        private final Check check;
        private final Check trial;
        private boolean mendKnown = false;
        private boolean softKnown = false;
        int mendPoint = NONE;
        int mendErrors = NONE;
        int softPoints = 0;

        Plans(Listing listing, Check check) {
            this.listing = listing;
            this.check = check;
            this.trial = new Check(listing);
        }

        void forget() {
            mendKnown = false;
            softKnown = false;
        }

        void findMend() {
            if (mendKnown) {
                return;
            }
            check.examine();
            mendKnown = true;
            mendPoint = NONE;
            mendErrors = NONE;
            for (int point = 0; point < listing.size; point++) {
                int many = errorsWith(point, SKIP);
                if (mendPoint == NONE || many < mendErrors) {
                    mendPoint = point;
                    mendErrors = many;
                }
            }
        }

        void findSoft() {
            if (softKnown) {
                return;
            }
            check.examine();
            softKnown = true;
            softPoints = 0;
            for (int point = 0; point < listing.size; point++) {
                int kind = listing.kinds[point];
                if ((kind == TAKE || kind == PLAN) && errorsWith(point, SHARE) <= check.faults.total) {
                    softPoints |= 1 << point;
                }
            }
        }

        private int errorsWith(int point, int kind) {
            int told = listing.kinds[point];
            // a statement that is not reached does nothing, whatever it is
            if (told == kind || !hasBit(check.flow.reachedPoints, point)) {
                return check.faults.total;
            }
            listing.turn(point, kind);
            trial.forget();
            trial.examine();
            listing.turn(point, told);
            return trial.faults.total;
        }
    }

    /** The witness of a clash. */
    private static final class Trail {
        private final Listing listing;
        private final Check check;
        private final int[] distances = new int[POINTS];
        private int shown = NONE;
        final int[] points = new int[TRAIL];
        int length = 0;

        Trail(Listing listing, Check check) {
            this.listing = listing;
            this.check = check;
        }

        void forget() {
            shown = NONE;
        }

        void show(int i) {
            if (shown == i) {
                return;
            }
            shown = i;
            length = 0;
            int access = check.faults.tell(i, 0);
            int loan = check.faults.tell(i, 2);
            if (!listing.has(access) || !listing.has(loan)) {
                return;
            }
            lengthen(loan);
            measure(1 << access, check.lending.passable(listing, check.flow, loan));
            follow(loan);
            measure(usesOf(loan), check.flow.reachedPoints);
            follow(access);
        }

        private int usesOf(int loan) {
            int bearing = check.flow.bearers(listing, loan);
            int found = 0;
            for (int point = 0; point < listing.size; point++) {
                if ((check.flow.reads[point] & bearing) != 0) {
                    found |= 1 << point;
                }
            }
            return found;
        }

        /** How many steps it is from each point to the nearest goal, by points that may be passed. */
        private void measure(int goals, int passable) {
            for (int point = 0; point < listing.size; point++) {
                distances[point] = hasBit(goals, point) ? 0 : FAR;
            }
            boolean nears = true;
            for (int round = 0; nears && round < ROUNDS; round++) {
                nears = false;
                for (int point = listing.size - 1; point >= 0; point--) {
                    int nearest = nearestBehind(point);
                    if (hasBit(passable, point) && nearest != NONE && distances[nearest] + 1 < distances[point]) {
                        distances[point] = distances[nearest] + 1;
                        nears = true;
                    }
                }
            }
        }

        /** Of the points that are next the nearest to a goal, of like ones the least; NONE, if no goal is to be had. */
        private int nearestBehind(int point) {
            int one = check.flow.onward[point];
            int other = check.flow.aside[point];
            int oneFar = one == NONE ? FAR : distances[one];
            int otherFar = other == NONE ? FAR : distances[other];
            if (oneFar >= FAR && otherFar >= FAR) {
                return NONE;
            }
            if (oneFar == otherFar) {
                return Math.min(one, other);
            }
            return oneFar < otherFar ? one : other;
        }

        private void follow(int start) {
            int point = nearestBehind(start);
            for (int step = 0; point != NONE && step < POINTS; step++) {
                lengthen(point);
                point = distances[point] == 0 ? NONE : nearestBehind(point);
            }
        }

        private void lengthen(int point) {
            if (length < TRAIL) {
                points[length] = point;
                length++;
            }
        }
    }

    /** A run of the program, step by step. */
    private static final class Walk {
        private final Listing listing;
        /** The references that were made, by their numbers. A spot is three times a variable, and its part. */
        private final int[] kinds = new int[MOST_STEPS];
        private final int[] spots = new int[MOST_STEPS];
        private final int[] froms = new int[MOST_STEPS];
        private final boolean[] stale = new boolean[MOST_STEPS];
        private final boolean[] awake = new boolean[MOST_STEPS];
        /** The latest access that spared a reference. */
        private final int[] spared = new int[MOST_STEPS];
        private int made = 0;
        private int accesses = 0;
        /** The reference that a variable is, NONE for a value. */
        private final int[] held = new int[VARIABLES];
        private boolean known = false;
        private int knownChoices = 0;
        private int knownSteps = 0;
        int badPoint = NONE;
        int why = NONE;
        int done = 0;

        Walk(Listing listing) {
            this.listing = listing;
        }

        void forget() {
            known = false;
        }

        void go(int choices, int steps) {
            if (known && knownChoices == choices && knownSteps == steps) {
                return;
            }
            known = true;
            knownChoices = choices;
            knownSteps = steps;
            begin();
            int point = 0;
            int maybes = 0;
            while (done < steps && listing.has(point) && why == NONE) {
                done++;
                why = fault(point);
                if (why != NONE) {
                    badPoint = point;
                } else {
                    perform(point);
                    boolean chosen = (choices >> maybes % CHOICE_BITS & 1) == 1;
                    maybes += listing.kinds[point] == MAYBE ? 1 : 0;
                    point = following(point, chosen);
                }
            }
        }

        private void begin() {
            made = 0;
            accesses = 0;
            badPoint = NONE;
            why = NONE;
            done = 0;
            for (int x = 0; x < VARIABLES; x++) {
                held[x] = NONE;
            }
        }

        private int following(int point, boolean chosen) {
            switch (listing.kinds[point]) {
                case MAYBE:
                    return chosen ? listing.targets[point] : point + 1;
                case GO:
                    return listing.targets[point];
                case STOP:
                    return NONE;
                default:
                    return point + 1;
            }
        }

        /** Why a statement is bad, 1 to 4; NONE, if it is not. */
        private int fault(int point) {
            int reference = held[listing.owners[point]];
            if (!listing.goesThrough[point]) {
                return listing.lends[point] && reference != NONE ? 4 : NONE;
            }
            if (reference == NONE) {
                return 1;
            }
            if (hasStale(reference)) {
                return 2;
            }
            int act = listing.acts[point];
            boolean writes = act == SET || act == TAKE || act == PLAN;
            return writes && hasShared(reference) ? 3 : NONE;
        }

        private boolean hasStale(int reference) {
            int link = reference;
            for (int links = 0; link != NONE && links < MOST_STEPS; links++) {
                if (stale[link]) {
                    return true;
                }
                link = froms[link];
            }
            return false;
        }

        private boolean hasShared(int reference) {
            int link = reference;
            for (int links = 0; link != NONE && links < MOST_STEPS; links++) {
                if (kinds[link] == SHARE) {
                    return true;
                }
                link = froms[link];
            }
            return false;
        }

        private void perform(int point) {
            int act = listing.acts[point];
            int owner = listing.owners[point];
            int x = listing.xs[point];
            boolean lends = listing.lends[point];
            int by = listing.goesThrough[point] ? held[owner] : NONE;
            if (by != NONE && kinds[by] == PLAN && !awake[by]) {
                touch(spots[by], true, by);
                awake[by] = true;
            }
            int spot = spotOf(point, by);
            if (act == USE || act == SHARE || act == PLAN) {
                touch(spot, false, by);
            } else if (act == SET || act == TAKE) {
                touch(spot, true, by);
            } else if (act == MOVE) {
                touch(owner * 3, true, NONE);
            }
            if (lends || act == MOVE) {
                touch(x * 3, true, NONE);
            }
            if (lends) {
                held[x] = make(act, spot, by);
            } else if (act == SET && by == NONE) {
                held[owner] = NONE;
            } else if (act == MOVE && owner != x) {
                held[x] = held[owner];
                held[owner] = NONE;
            }
        }

        /** The spot of a statement's place, gone to through a reference, or through none. */
        private int spotOf(int point, int by) {
            int path = listing.paths[point];
            if (by == NONE) {
                return listing.owners[point] * 3 + path % 3;
            }
            boolean whole = spots[by] % 3 == 0;
            return whole ? spots[by] + path - DEEP : spots[by];
        }

        private int make(int kind, int spot, int from) {
            if (made >= MOST_STEPS) {
                return NONE;
            }
            int reference = made;
            made++;
            kinds[reference] = kind;
            spots[reference] = spot;
            froms[reference] = from;
            stale[reference] = false;
            awake[reference] = false;
            spared[reference] = 0;
            return reference;
        }

        private void touch(int spot, boolean writing, int by) {
            accesses++;
            int link = by;
            for (int links = 0; link != NONE && links < MOST_STEPS; links++) {
                spared[link] = accesses;
                link = froms[link];
            }
            for (int reference = 0; reference < made; reference++) {
                if (!stale[reference] && spared[reference] != accesses && meet(spots[reference], spot)) {
                    boolean exclusive = kinds[reference] == TAKE || kinds[reference] == PLAN && awake[reference];
                    stale[reference] = writing || exclusive;
                }
            }
        }

        private static boolean meet(int one, int other) {
            return one == other || one / 3 == other / 3 && (one % 3 == 0 || other % 3 == 0);
        }
    }

    /** A row of numbers of one form, or a lost one. */
    private static final class Sheet {
        final int[] items = new int[ITEMS];
        int form = NONE;
        int size = 0;

        boolean isLost() {
            return form == NONE;
        }

        void renew(int newForm, int newSize) {
            form = newForm;
            size = newSize;
            for (int i = 0; i < ITEMS; i++) {
                items[i] = 0;
            }
        }

        void drop() {
            form = NONE;
            size = 0;
        }

        /** The finding that keeps an item from being treated as of a form; 0, if there is none. */
        int hindrance(int asForm, int i) {
            if (isLost()) {
                return LOST;
            }
            if (form != asForm) {
                return CAST;
            }
            return i < 0 || i >= size ? INDEX : 0;
        }

        boolean hasRow(int start, int many) {
            return start >= 0 && many >= 0 && start <= size && many <= size - start;
        }

        void enter(int i, int v) {
            if (form == 0) {
                items[i] = (byte) v;
            } else {
                items[i] = form == 1 ? (short) v : v;
            }
        }
    }
}
