/** A loan checker for a small language with borrowed places; the document's promises say what each call answers. */
public final class LoanPoints {
    public static final int NONE = -1, BAD = -2, NOT = -3, FULL = -4;

    private static final int VARIABLES = 8, PLACES = 48, PATHS = 6, POINTS = 24, KINDS = 10;
    private static final int SKIP = 0, USE = 1, SET = 2, SHARE = 3, TAKE = 4, PLAN = 5;
    private static final int MOVE = 6, MAYBE = 7, GO = 8, STOP = 9;
    /** The least path that goes through its variable. */
    private static final int DEEP = 3;
    /** The bit of a plain value, beside the bits of loans. */
    private static final int VALUE = 1 << POINTS;
    private static final int CLASH = 0, NO_REFERENCE = 1, FROZEN = 2, NESTED = 3, ERROR_KINDS = 4;
    /** Bounds the rounds of what grows until it rests: a state has some 200 steps at most, so this is never met. */
    private static final int ROUNDS = 1000;
    private static final int FAR = 1000;
    private static final int TRAIL = 60, MOST_ERRORS = 1000, MOST_STEPS = 300, CHOICE_BITS = 31;
    private static final int SHEETS = 4, FORMS = 3, ITEMS = 60;
    private static final int LOST = 1, INDEX = 2, CAST = 3, STORE = 4, SIZE = 5;
    private static final int DIGEST_ERRORS = 30, DIGEST_STEPS = 60;

    private final Listing listing = new Listing();
    private final Check check = new Check(listing);
    private final Plans plans = new Plans(listing, check);
    private final Trail trail = new Trail(listing, check);
    private final Walk walk = new Walk(listing);
    private final Sheet[] sheets = new Sheet[SHEETS];
    private boolean checked = false;
    private int latestFinding = 0;

    public LoanPoints() {
        for (int s = 0; s < SHEETS; s++) {
            sheets[s] = new Sheet();
        }
    }

    // ---- statements

    public int add(int kind, int x, int place, int target) {
        if (!mayBe(kind, x, place, target)) {
            return BAD;
        }
        if (listing.size >= POINTS) {
            return FULL;
        }
        append(kind, x, place, target);
        return listing.size;
    }

    public int alter(int point, int kind, int x, int place, int target) {
        if (!listing.has(point) || !mayBe(kind, x, place, target)) {
            return BAD;
        }
        listing.fill(point, kind, x, place, target);
        forget();
        return 1;
    }

    public int back() {
        if (listing.size == 0) {
            return NOT;
        }
        listing.size--;
        forget();
        return listing.size;
    }

    public int clear() {
        int before = listing.size;
        listing.size = 0;
        forget();
        return before;
    }

    public int code(int point, int what) {
        if (!listing.has(point)) {
            return BAD;
        }
        switch (what) {
            case 0:
                return listing.kinds[point];
            case 1:
                return listing.xs[point];
            case 2:
                return listing.places[point];
            case 3:
                return listing.targets[point];
            default:
                return BAD;
        }
    }

    public int read(int s) {
        if (!isSheet(s)) {
            return BAD;
        }
        Sheet sheet = sheets[s];
        if (sheet.isLost()) {
            return finding(LOST);
        }
        int taken = 0;
        for (int i = 0; i + 4 <= sheet.size && listing.size < POINTS; i += 4) {
            int[] items = sheet.items;
            if (!mayBe(items[i], items[i + 1], items[i + 2], items[i + 3])) {
                break;
            }
            append(items[i], items[i + 1], items[i + 2], items[i + 3]);
            taken++;
        }
        return taken;
    }

    private static boolean isBetween(int number, int least, int most) {
        return number >= least && number <= most;
    }

    private static boolean isVariable(int x) {
        return isBetween(x, 0, VARIABLES - 1);
    }

    private static boolean mayBe(int kind, int x, int place, int target) {
        return isBetween(kind, 0, KINDS - 1) && isVariable(x)
            && isBetween(place, 0, PLACES - 1) && isBetween(target, 0, POINTS - 1);
    }

    private void append(int kind, int x, int place, int target) {
        listing.fill(listing.size, kind, x, place, target);
        listing.size++;
        forget();
    }

    private void forget() {
        checked = false;
        plans.forget();
        trail.forget();
        walk.forget();
    }

    // ---- what is found

    public int next(int point) {
        if (!listing.has(point)) {
            return BAD;
        }
        Flow flow = checkedProgram().flow;
        return bitOf(flow.onward[point]) | bitOf(flow.aside[point]);
    }

    public int reached() {
        return checkedProgram().flow.reachedPoints;
    }

    public int live(int x) {
        return isVariable(x) ? checkedProgram().flow.livePoints(x) : BAD;
    }

    public int region(int x) {
        return isVariable(x) ? checkedProgram().flow.regions[x] : BAD;
    }

    public int holds(int point, int x) {
        if (!listing.has(point) || !isVariable(x)) {
            return BAD;
        }
        return checkedProgram().lending.held[point * VARIABLES + x];
    }

    public int loans() {
        return checkedProgram().lending.allLoans;
    }

    public int scope(int point) {
        return listing.has(point) ? checkedProgram().lending.scoped[point] : BAD;
    }

    public int active(int point) {
        return listing.has(point) ? checkedProgram().lending.activated[point] : BAD;
    }

    public int bears(int point) {
        if (!listing.has(point)) {
            return BAD;
        }
        if (!hasBit(checkedProgram().lending.allLoans, point)) {
            return NOT;
        }
        return check.flow.bearers(listing, point);
    }

    private Check checkedProgram() {
        if (!checked) {
            check.examine();
            checked = true;
        }
        return check;
    }

    private static boolean hasBit(int bits, int number) {
        return (bits >> number & 1) == 1;
    }

    private static int bitOf(int number) {
        return number == NONE ? 0 : 1 << number;
    }

    // ---- errors

    public int errors() {
        return checkedProgram().faults.total;
    }

    public int error(int i, int what) {
        if (!isBetween(i, 0, MOST_ERRORS - 1) || !isBetween(what, 0, 2)) {
            return BAD;
        }
        return checkedProgram().faults.tell(i, what);
    }

    public int witness(int i, int j) {
        if (!isBetween(i, 0, MOST_ERRORS - 1) || !isBetween(j, NONE, TRAIL - 1)) {
            return BAD;
        }
        if (checkedProgram().faults.tell(i, 1) != CLASH) {
            return NOT;
        }
        trail.show(i);
        if (j == NONE) {
            return trail.length;
        }
        return j < trail.length ? trail.points[j] : NONE;
    }

    // ---- plans, runs

    public int mend(int what) {
        if (!isBetween(what, 0, 1)) {
            return BAD;
        }
        if (listing.size == 0) {
            return NONE;
        }
        checkedProgram();
        plans.findMend();
        return what == 0 ? plans.mendPoint : plans.mendErrors;
    }

    public int soft() {
        checkedProgram();
        plans.findSoft();
        return plans.softPoints;
    }

    public int run(int choices, int steps, int what) {
        if (!isBetween(steps, 0, MOST_STEPS) || !isBetween(what, 0, 2)) {
            return BAD;
        }
        walk.go(choices, steps);
        if (what == 0) {
            return walk.badPoint;
        }
        return what == 1 ? walk.why : walk.done;
    }

    // ---- sheets

    public int sheet(int s, int form, int n) {
        if (!isSheet(s) || !isForm(form) || n > ITEMS) {
            return BAD;
        }
        if (n < 0) {
            return finding(SIZE);
        }
        sheets[s].renew(form, n);
        return n;
    }

    public int lose(int s) {
        if (!isSheet(s)) {
            return BAD;
        }
        Sheet sheet = sheets[s];
        if (sheet.isLost()) {
            return finding(LOST);
        }
        int before = sheet.size;
        sheet.drop();
        return before;
    }

    public int put(int s, int form, int i, int v) {
        if (!isSheet(s) || !isForm(form)) {
            return BAD;
        }
        int hindrance = sheets[s].hindrance(form, i);
        if (hindrance != 0) {
            return finding(hindrance);
        }
        sheets[s].enter(i, v);
        return 1;
    }

    public int get(int s, int form, int i) {
        if (!isSheet(s) || !isForm(form)) {
            return Integer.MIN_VALUE;
        }
        int hindrance = sheets[s].hindrance(form, i);
        if (hindrance != 0) {
            latestFinding = hindrance;
            return Integer.MIN_VALUE;
        }
        return sheets[s].items[i];
    }

    public int copy(int s, int i, int t, int j, int n) {
        if (!isSheet(s) || !isSheet(t)) {
            return BAD;
        }
        Sheet from = sheets[s];
        Sheet to = sheets[t];
        if (from.isLost() || to.isLost()) {
            return finding(LOST);
        }
        if (from.form != to.form) {
            return finding(STORE);
        }
        if (!from.hasRow(i, n) || !to.hasRow(j, n)) {
            return finding(INDEX);
        }
        System.arraycopy(from.items, i, to.items, j, n);
        return 1;
    }

    public int write(int s) {
        if (!isSheet(s)) {
            return BAD;
        }
        Sheet sheet = sheets[s];
        if (sheet.isLost()) {
            return finding(LOST);
        }
        int written = Math.min(sheet.size, checkedProgram().faults.total);
        for (int i = 0; i < written; i++) {
            sheet.enter(i, check.faults.tell(i, 0));
        }
        return written;
    }

    public int count(int what) {
        switch (what) {
            case 0:
                return listing.size;
            case 1:
                return Integer.bitCount(checkedProgram().flow.reachedPoints);
            case 2:
                return Integer.bitCount(checkedProgram().lending.allLoans);
            case 3:
                return checkedProgram().faults.total;
            case 4:
            case 5:
            case 6:
            case 7:
                return checkedProgram().faults.totalOf(what - 4);
            case 8:
                return latestFinding;
            default:
                return BAD;
        }
    }

    public long digest() {
        long h = 17;
        for (int what = 0; what <= 7; what++) {
            h = fold(h, count(what));
        }
        h = fold(h, reached());
        h = fold(h, loans());
        for (int x = 0; x < VARIABLES; x++) {
            h = fold(h, live(x));
            h = fold(h, region(x));
        }
        for (int point = 0; point < listing.size; point++) {
            h = foldPoint(h, point);
        }
        for (int i = 0; i < DIGEST_ERRORS; i++) {
            h = foldError(h, i);
        }
        h = fold(h, mend(0));
        h = fold(h, mend(1));
        h = fold(h, soft());
        h = foldRun(h, 0);
        h = foldRun(h, 5);
        return foldRun(h, Integer.MAX_VALUE);
    }

    private static long fold(long h, long answer) {
        return 31 * h + answer;
    }

    private long foldPoint(long before, int point) {
        long h = before;
        for (int what = 0; what <= 3; what++) {
            h = fold(h, code(point, what));
        }
        h = fold(h, next(point));
        for (int x = 0; x < VARIABLES; x++) {
            h = fold(h, holds(point, x));
        }
        h = fold(h, scope(point));
        h = fold(h, active(point));
        return fold(h, bears(point));
    }

    private long foldError(long before, int i) {
        long h = before;
        for (int what = 0; what <= 2; what++) {
            h = fold(h, error(i, what));
        }
        h = fold(h, witness(i, NONE));
        return fold(h, witness(i, 1));
    }

    private long foldRun(long before, int choices) {
        long h = before;
        for (int what = 0; what <= 2; what++) {
            h = fold(h, run(choices, DIGEST_STEPS, what));
        }
        return h;
    }

    private static boolean isSheet(int s) {
        return isBetween(s, 0, SHEETS - 1);
    }

    private static boolean isForm(int form) {
        return isBetween(form, 0, FORMS - 1);
    }

    private int finding(int number) {
        latestFinding = number;
        return -10 - number;
    }

    /** The statements, as they were told. */
    private static final class Listing {
        final int[] kinds = new int[POINTS];
        final int[] xs = new int[POINTS];
        final int[] places = new int[POINTS];
        final int[] targets = new int[POINTS];
        int size = 0;

        boolean has(int point) {
            return point >= 0 && point < size;
        }

        void fill(int point, int kind, int x, int place, int target) {
            kinds[point] = kind;
            xs[point] = x;
            places[point] = place;
            targets[point] = target;
        }

        /** The kind that counts: a plan through a reference is a take. code() still tells what was told. */
        int kindAt(int point) {
            return kinds[point] == PLAN && isDeepAt(point) ? TAKE : kinds[point];
        }

        int ownerAt(int point) {
            return places[point] / PATHS;
        }

        int pathAt(int point) {
            return places[point] % PATHS;
        }

        boolean isDeepAt(int point) {
            return pathAt(point) >= DEEP;
        }

        boolean lendsAt(int point) {
            return isBetween(kinds[point], SHARE, PLAN);
        }

        boolean goesThroughAt(int point) {
            return isBetween(kinds[point], USE, PLAN) && isDeepAt(point);
        }
    }

    /** Which points follow, which are reached, where variables are live, and their regions. */
    private static final class Flow {
        /** The points that are next, NONE where there is none. */
        final int[] onward = new int[POINTS];
        final int[] aside = new int[POINTS];
        /** Variables, as bits. */
        final int[] reads = new int[POINTS];
        final int[] writes = new int[POINTS];
        final int[] liveVariables = new int[POINTS];
        /** The variable whose loans x comes to depend on at a point, NONE where there is none. */
        final int[] sources = new int[POINTS];
        final int[] regions = new int[VARIABLES];
        int size = 0;
        int reachedPoints = 0;

        void survey(Listing listing) {
            size = listing.size;
            for (int point = 0; point < size; point++) {
                markNext(listing, point);
                markVariables(listing, point);
            }
            findReached();
            findLive();
            findRegions(listing);
        }

        private void markNext(Listing listing, int point) {
            int kind = listing.kindAt(point);
            int behind = kind == GO || kind == STOP ? NONE : point + 1;
            int target = kind == GO || kind == MAYBE ? listing.targets[point] : NONE;
            onward[point] = listing.has(behind) ? behind : NONE;
            aside[point] = listing.has(target) ? target : NONE;
        }

        private void markVariables(Listing listing, int point) {
            int kind = listing.kindAt(point);
            int owner = listing.ownerAt(point);
            boolean through = listing.goesThroughAt(point);
            boolean lends = listing.lendsAt(point);
            boolean readsOwner = kind == USE || kind == MOVE || through;
            boolean writesOwner = kind == MOVE || kind == SET && !through;
            boolean writesX = lends || kind == MOVE;
            reads[point] = readsOwner ? 1 << owner : 0;
            writes[point] = (writesOwner ? 1 << owner : 0) | (writesX ? 1 << listing.xs[point] : 0);
            sources[point] = kind == MOVE || lends && through ? owner : NONE;
        }

        private void findReached() {
            reachedPoints = size > 0 ? 1 : 0;
            boolean grows = true;
            for (int round = 0; grows && round < ROUNDS; round++) {
                int before = reachedPoints;
                for (int point = 0; point < size; point++) {
                    if (hasBit(reachedPoints, point)) {
                        reachedPoints |= bitOf(onward[point]) | bitOf(aside[point]);
                    }
                }
                grows = reachedPoints != before;
            }
        }

        private void findLive() {
            for (int point = 0; point < size; point++) {
                liveVariables[point] = 0;
            }
            boolean grows = true;
            for (int round = 0; grows && round < ROUNDS; round++) {
                grows = false;
                for (int point = size - 1; point >= 0; point--) {
                    int behind = onward[point] == NONE ? 0 : liveVariables[onward[point]];
                    behind |= aside[point] == NONE ? 0 : liveVariables[aside[point]];
                    int found = reads[point] | behind & ~writes[point];
                    grows |= found != liveVariables[point];
                    liveVariables[point] = found;
                }
            }
        }

        private void findRegions(Listing listing) {
            for (int x = 0; x < VARIABLES; x++) {
                regions[x] = livePoints(x) & reachedPoints;
            }
            boolean grows = true;
            for (int round = 0; grows && round < ROUNDS; round++) {
                grows = false;
                for (int point = 0; point < size; point++) {
                    if (sources[point] != NONE && hasBit(reachedPoints, point)) {
                        int before = regions[sources[point]];
                        int found = before | regions[listing.xs[point]];
                        grows |= found != before;
                        regions[sources[point]] = found;
                    }
                }
            }
        }

        int livePoints(int x) {
            int found = 0;
            for (int point = 0; point < size; point++) {
                found |= (liveVariables[point] >> x & 1) << point;
            }
            return found;
        }

        int bearers(Listing listing, int loan) {
            int found = 1 << listing.xs[loan];
            boolean grows = true;
            for (int round = 0; grows && round < ROUNDS; round++) {
                int before = found;
                for (int point = 0; point < size; point++) {
                    if (sources[point] != NONE && hasBit(reachedPoints, point) && hasBit(found, sources[point])) {
                        found |= 1 << listing.xs[point];
                    }
                }
                grows = found != before;
            }
            return found;
        }
    }

    /** The loans, who may hold them, where they are in scope, and where they may be active. */
    private static final class Lending {
        /** Loans by kind, as bits. */
        int allLoans = 0;
        int shareLoans = 0;
        int takeLoans = 0;
        int planLoans = 0;
        /** What each variable may be ahead of each point: loans and VALUE, as bits. */
        final int[] held = new int[POINTS * VARIABLES];
        private final int[] behind = new int[VARIABLES];
        /** Loans by points, as bits. */
        final int[] scoped = new int[POINTS];
        final int[] activated = new int[POINTS];
        private final int[] kills = new int[POINTS];
        private final int[] within = new int[POINTS];
        private final int[] wakes = new int[POINTS];
        /** Loans by the variable that their place goes through, and by their x. */
        private final int[] throughOwner = new int[VARIABLES];
        private final int[] byX = new int[VARIABLES];

        void survey(Listing listing, Flow flow) {
            sortLoans(listing, flow);
            findHeld(listing, flow);
            for (int point = 0; point < flow.size; point++) {
                markLoans(listing, flow, point);
            }
            findScopes(flow);
        }

        private void sortLoans(Listing listing, Flow flow) {
            allLoans = 0;
            shareLoans = 0;
            takeLoans = 0;
            planLoans = 0;
            for (int x = 0; x < VARIABLES; x++) {
                throughOwner[x] = 0;
                byX[x] = 0;
            }
            for (int point = 0; point < flow.size; point++) {
                if (hasBit(flow.reachedPoints, point) && listing.lendsAt(point)) {
                    sortLoan(listing, point);
                }
            }
        }

        private void sortLoan(Listing listing, int point) {
            int kind = listing.kindAt(point);
            int loan = 1 << point;
            allLoans |= loan;
            shareLoans |= kind == SHARE ? loan : 0;
            takeLoans |= kind == TAKE ? loan : 0;
            planLoans |= kind == PLAN ? loan : 0;
            boolean deep = listing.isDeepAt(point);
            int owner = listing.ownerAt(point);
            int x = listing.xs[point];
            if (deep) {
                throughOwner[owner] |= loan;
            }
            // a loan through its own x is never in scope, so no region keeps it
            if (!deep || owner != x) {
                byX[x] |= loan;
            }
        }

        private void findHeld(Listing listing, Flow flow) {
            for (int i = 0; i < flow.size * VARIABLES; i++) {
                held[i] = i < VARIABLES ? VALUE : 0;
            }
            boolean grows = true;
            for (int round = 0; grows && round < ROUNDS; round++) {
                grows = false;
                for (int point = 0; point < flow.size; point++) {
                    if (hasBit(flow.reachedPoints, point)) {
                        stepBehind(listing, point);
                        grows |= join(flow.onward[point]);
                        grows |= join(flow.aside[point]);
                    }
                }
            }
        }

        private void stepBehind(Listing listing, int point) {
            System.arraycopy(held, point * VARIABLES, behind, 0, VARIABLES);
            int kind = listing.kindAt(point);
            int owner = listing.ownerAt(point);
            int x = listing.xs[point];
            if (listing.lendsAt(point)) {
                behind[x] = 1 << point;
            } else if (kind == SET && !listing.isDeepAt(point)) {
                behind[owner] = VALUE;
            } else if (kind == MOVE && owner != x) {
                behind[x] = behind[owner];
                behind[owner] = VALUE;
            }
        }

        private boolean join(int point) {
            if (point == NONE) {
                return false;
            }
            boolean grows = false;
            for (int x = 0; x < VARIABLES; x++) {
                int before = held[point * VARIABLES + x];
                int found = before | behind[x];
                grows |= found != before;
                held[point * VARIABLES + x] = found;
            }
            return grows;
        }

        private void markLoans(Listing listing, Flow flow, int point) {
            int killed = 0;
            int kept = 0;
            for (int x = 0; x < VARIABLES; x++) {
                killed |= hasBit(flow.writes[point], x) ? throughOwner[x] : 0;
                kept |= hasBit(flow.regions[x], point) ? byX[x] : 0;
            }
            kills[point] = killed;
            within[point] = kept;
            wakes[point] = plannedThrough(listing, point);
        }

        /** The loans of plan that a variable may be through which the statement goes. */
        int plannedThrough(Listing listing, int point) {
            return heldThrough(listing, point) & planLoans;
        }

        int heldThrough(Listing listing, int point) {
            return listing.goesThroughAt(point) ? heldByOwner(listing, point) : 0;
        }

        int heldByOwner(Listing listing, int point) {
            return held[point * VARIABLES + listing.ownerAt(point)];
        }

        private void findScopes(Flow flow) {
            for (int point = 0; point < flow.size; point++) {
                scoped[point] = 0;
                activated[point] = 0;
            }
            boolean grows = true;
            for (int round = 0; grows && round < ROUNDS; round++) {
                grows = false;
                for (int point = 0; point < flow.size; point++) {
                    int left = scoped[point] & ~kills[point];
                    int awake = left & (activated[point] | wakes[point]);
                    int out = left | allLoans & 1 << point;
                    grows |= pass(flow.onward[point], out, awake);
                    grows |= pass(flow.aside[point], out, awake);
                }
            }
        }

        private boolean pass(int point, int out, int awake) {
            if (point == NONE) {
                return false;
            }
            int nowScoped = scoped[point] | out & within[point];
            int nowActive = activated[point] | awake & within[point];
            boolean grows = nowScoped != scoped[point] || nowActive != activated[point];
            scoped[point] = nowScoped;
            activated[point] = nowActive;
            return grows;
        }

        /** The points, as bits, that a way may pass on which a loan stays in scope. */
        int passable(Listing listing, Flow flow, int loan) {
            int found = flow.regions[listing.xs[loan]];
            for (int point = 0; point < flow.size; point++) {
                if (hasBit(kills[point], loan)) {
                    found &= ~(1 << point);
                }
            }
            return found;
        }
    }

    /** The errors of each point, by kinds, as bits of their numbers. */
    private static final class Faults {
        private final int[] byPoint = new int[POINTS * ERROR_KINDS];
        private int size = 0;
        int total = 0;

        void survey(Listing listing, Flow flow, Lending lending) {
            size = flow.size;
            total = 0;
            for (int point = 0; point < size; point++) {
                boolean counts = hasBit(flow.reachedPoints, point);
                int row = point * ERROR_KINDS;
                byPoint[row + CLASH] = counts ? clashes(listing, lending, point) : 0;
                byPoint[row + NO_REFERENCE] = counts ? noReference(listing, lending, point) : 0;
                byPoint[row + FROZEN] = counts ? frozen(listing, lending, point) : 0;
                byPoint[row + NESTED] = counts ? nested(listing, lending, point) : 0;
                for (int kind = 0; kind < ERROR_KINDS; kind++) {
                    total += Integer.bitCount(byPoint[row + kind]);
                }
            }
        }

        private static int clashes(Listing listing, Lending lending, int point) {
            if (lending.scoped[point] == 0) {
                return 0;
            }
            int kind = listing.kindAt(point);
            int place = listing.places[point];
            int found = 0;
            if (kind == USE || kind == SHARE || kind == PLAN) {
                found = readClashes(listing, lending, point, place);
            } else if (kind == SET || kind == TAKE) {
                found = writeClashes(listing, lending, point, place, kind == SET);
            } else if (kind == MOVE) {
                found = writeClashes(listing, lending, point, listing.ownerAt(point) * PATHS, false);
            }
            if (kind == PLAN) {
                found |= lending.scoped[point] & 1 << point;
            }
            if (listing.lendsAt(point) || kind == MOVE) {
                found |= writeClashes(listing, lending, point, listing.xs[point] * PATHS, true);
            }
            return found | wakingClashes(listing, lending, point);
        }

        private static int wakingClashes(Listing listing, Lending lending, int point) {
            int woken = lending.plannedThrough(listing, point);
            int found = 0;
            for (int loan = 0; woken >> loan != 0 && loan < POINTS; loan++) {
                if (hasBit(woken, loan)) {
                    int struck = writeClashes(listing, lending, point, listing.places[loan], false);
                    found |= struck & ~(1 << loan);
                }
            }
            return found;
        }

        private static int readClashes(Listing listing, Lending lending, int point, int place) {
            int exclusive = lending.takeLoans | lending.activated[point];
            return overlapping(listing, lending.scoped[point] & exclusive, place, false);
        }

        private static int writeClashes(Listing listing, Lending lending, int point, int place, boolean flat) {
            return overlapping(listing, lending.scoped[point], place, flat && place % PATHS < DEEP);
        }

        private static int overlapping(Listing listing, int loans, int place, boolean onlyShallow) {
            int found = 0;
            for (int loan = 0; loans >> loan != 0 && loan < POINTS; loan++) {
                if (hasBit(loans, loan) && overlap(place, listing.places[loan])
                    && !(onlyShallow && listing.isDeepAt(loan))) {
                    found |= 1 << loan;
                }
            }
            return found;
        }

        private static boolean overlap(int one, int other) {
            if (one / PATHS != other / PATHS) {
                return false;
            }
            int path = one % PATHS;
            int otherPath = other % PATHS;
            return path == otherPath || path == 0 || otherPath == 0 || path >= DEEP && otherPath >= DEEP;
        }

        private static int noReference(Listing listing, Lending lending, int point) {
            boolean bare = (lending.heldThrough(listing, point) & VALUE) != 0;
            return bare ? 1 << listing.ownerAt(point) : 0;
        }

        private static int frozen(Listing listing, Lending lending, int point) {
            int kind = listing.kindAt(point);
            boolean writes = kind == SET || kind == TAKE || kind == PLAN;
            return writes ? lending.heldThrough(listing, point) & lending.shareLoans : 0;
        }

        private static int nested(Listing listing, Lending lending, int point) {
            if (!listing.lendsAt(point) || listing.isDeepAt(point)) {
                return 0;
            }
            boolean lendsReference = (lending.heldByOwner(listing, point) & ~VALUE) != 0;
            return lendsReference ? 1 << listing.ownerAt(point) : 0;
        }

        int totalOf(int kind) {
            int found = 0;
            for (int point = 0; point < size; point++) {
                found += Integer.bitCount(byPoint[point * ERROR_KINDS + kind]);
            }
            return found;
        }

        /** The point (0), kind (1) or number (2) of the i-th error; NONE, if there are not so many. */
        int tell(int i, int what) {
            int left = i;
            for (int row = 0; row < size * ERROR_KINDS; row++) {
                int many = Integer.bitCount(byPoint[row]);
                if (left < many) {
                    if (what == 0) {
                        return row / ERROR_KINDS;
                    }
                    return what == 1 ? row % ERROR_KINDS : bitAt(byPoint[row], left);
                }
                left -= many;
            }
            return NONE;
        }

        /** The number of the i-th bit that is set. */
        private static int bitAt(int bits, int i) {
            int left = i;
            for (int number = 0; number < POINTS; number++) {
                if (hasBit(bits, number)) {
                    if (left == 0) {
                        return number;
                    }
                    left--;
                }
            }
            return NONE;
        }
    }

    /** All that is found about the statements of a listing. */
    private static final class Check {
        private final Listing listing;
        final Flow flow = new Flow();
        final Lending lending = new Lending();
        final Faults faults = new Faults();

        Check(Listing listing) {
            this.listing = listing;
        }

        void examine() {
            flow.survey(listing);
            lending.survey(listing, flow);
            faults.survey(listing, flow, lending);
        }
    }

    /** What would be, if one statement were another; asked of a program that is checked. */
    private static final class Plans {
        private final Listing listing;
        private final Check check;
        private final Check trial;
        private boolean mendKnown = false;
        private boolean softKnown = false;
        int mendPoint = NONE;
        int mendErrors = NONE;
        int softPoints = 0;

        Plans(Listing listing, Check check) {
            this.listing = listing;
            this.check = check;
            this.trial = new Check(listing);
        }

        void forget() {
            mendKnown = false;
            softKnown = false;
        }

        void findMend() {
            if (mendKnown) {
                return;
            }
            mendKnown = true;
            mendPoint = NONE;
            mendErrors = NONE;
            for (int point = 0; point < listing.size; point++) {
                int many = errorsWith(point, SKIP);
                if (mendPoint == NONE || many < mendErrors) {
                    mendPoint = point;
                    mendErrors = many;
                }
            }
        }

        void findSoft() {
            if (softKnown) {
                return;
            }
            softKnown = true;
            softPoints = 0;
            for (int point = 0; point < listing.size; point++) {
                int kind = listing.kinds[point];
                if ((kind == TAKE || kind == PLAN) && errorsWith(point, SHARE) <= check.faults.total) {
                    softPoints |= 1 << point;
                }
            }
        }

        private int errorsWith(int point, int kind) {
            int told = listing.kinds[point];
            // a statement that is not reached does nothing, whatever it is
            if (told == kind || !hasBit(check.flow.reachedPoints, point)) {
                return check.faults.total;
            }
            listing.kinds[point] = kind;
            trial.examine();
            listing.kinds[point] = told;
            return trial.faults.total;
        }
    }

    /** The witness of a clash; asked of a program that is checked. */
    private static final class Trail {
        private final Listing listing;
        private final Check check;
        private final int[] distances = new int[POINTS];
        private int shown = NONE;
        final int[] points = new int[TRAIL];
        int length = 0;

        Trail(Listing listing, Check check) {
            this.listing = listing;
            this.check = check;
        }

        void forget() {
            shown = NONE;
        }

        void show(int i) {
            if (shown == i) {
                return;
            }
            shown = i;
            length = 0;
            int access = check.faults.tell(i, 0);
            int loan = check.faults.tell(i, 2);
            if (!listing.has(access) || !listing.has(loan)) {
                return;
            }
            append(loan);
            measure(1 << access, check.lending.passable(listing, check.flow, loan));
            follow(loan);
            measure(usesOf(loan), check.flow.reachedPoints);
            follow(access);
        }

        private int usesOf(int loan) {
            int bearing = check.flow.bearers(listing, loan);
            int found = 0;
            for (int point = 0; point < listing.size; point++) {
                if ((check.flow.reads[point] & bearing) != 0) {
                    found |= 1 << point;
                }
            }
            return found;
        }

        /** How many steps it is from each point to the nearest goal, by points that may be passed. */
        private void measure(int goals, int passable) {
            for (int point = 0; point < listing.size; point++) {
                distances[point] = hasBit(goals, point) ? 0 : FAR;
            }
            boolean nears = true;
            for (int round = 0; nears && round < ROUNDS; round++) {
                nears = false;
                for (int point = listing.size - 1; point >= 0; point--) {
                    int nearest = nearestBehind(point);
                    if (hasBit(passable, point) && nearest != NONE && distances[nearest] + 1 < distances[point]) {
                        distances[point] = distances[nearest] + 1;
                        nears = true;
                    }
                }
            }
        }

        /** Of the points that are next the nearest to a goal, of like ones the least; NONE, if no goal is to be had. */
        private int nearestBehind(int point) {
            int one = check.flow.onward[point];
            int other = check.flow.aside[point];
            int oneFar = one == NONE ? FAR : distances[one];
            int otherFar = other == NONE ? FAR : distances[other];
            if (oneFar >= FAR && otherFar >= FAR) {
                return NONE;
            }
            if (oneFar == otherFar) {
                return Math.min(one, other);
            }
            return oneFar < otherFar ? one : other;
        }

        private void follow(int start) {
            int point = nearestBehind(start);
            for (int step = 0; point != NONE && step < POINTS; step++) {
                append(point);
                point = distances[point] == 0 ? NONE : nearestBehind(point);
            }
        }

        private void append(int point) {
            if (length < TRAIL) {
                points[length] = point;
                length++;
            }
        }
    }

    /** A run of the program, step by step. */
    private static final class Walk {
        private final Listing listing;
        /** The references that were made, by their numbers. A spot is three times a variable, and its part. */
        private final int[] kinds = new int[MOST_STEPS];
        private final int[] spots = new int[MOST_STEPS];
        private final int[] froms = new int[MOST_STEPS];
        private final boolean[] stale = new boolean[MOST_STEPS];
        private final boolean[] awake = new boolean[MOST_STEPS];
        /** The latest access that spared a reference. */
        private final int[] spared = new int[MOST_STEPS];
        private int made = 0;
        private int accesses = 0;
        /** The reference that a variable is, NONE for a value. */
        private final int[] held = new int[VARIABLES];
        private boolean known = false;
        private int knownChoices = 0;
        private int knownSteps = 0;
        int badPoint = NONE;
        int why = NONE;
        int done = 0;

        Walk(Listing listing) {
            this.listing = listing;
        }

        void forget() {
            known = false;
        }

        void go(int choices, int steps) {
            if (known && knownChoices == choices && knownSteps == steps) {
                return;
            }
            known = true;
            knownChoices = choices;
            knownSteps = steps;
            begin();
            int point = 0;
            int maybes = 0;
            while (done < steps && listing.has(point) && why == NONE) {
                done++;
                why = fault(point);
                if (why != NONE) {
                    badPoint = point;
                } else {
                    perform(point);
                    boolean chosen = (choices >> maybes % CHOICE_BITS & 1) == 1;
                    maybes += listing.kinds[point] == MAYBE ? 1 : 0;
                    point = following(point, chosen);
                }
            }
        }

        private void begin() {
            made = 0;
            accesses = 0;
            badPoint = NONE;
            why = NONE;
            done = 0;
            for (int x = 0; x < VARIABLES; x++) {
                held[x] = NONE;
            }
        }

        private int following(int point, boolean chosen) {
            switch (listing.kinds[point]) {
                case MAYBE:
                    return chosen ? listing.targets[point] : point + 1;
                case GO:
                    return listing.targets[point];
                case STOP:
                    return NONE;
                default:
                    return point + 1;
            }
        }

        private int fault(int point) {
            int reference = held[listing.ownerAt(point)];
            if (!listing.goesThroughAt(point)) {
                return listing.lendsAt(point) && reference != NONE ? 4 : NONE;
            }
            if (reference == NONE) {
                return 1;
            }
            if (hasStale(reference)) {
                return 2;
            }
            int kind = listing.kindAt(point);
            boolean writes = kind == SET || kind == TAKE || kind == PLAN;
            return writes && hasShared(reference) ? 3 : NONE;
        }

        private boolean hasStale(int reference) {
            int link = reference;
            for (int links = 0; link != NONE && links < MOST_STEPS; links++) {
                if (stale[link]) {
                    return true;
                }
                link = froms[link];
            }
            return false;
        }

        private boolean hasShared(int reference) {
            int link = reference;
            for (int links = 0; link != NONE && links < MOST_STEPS; links++) {
                if (kinds[link] == SHARE) {
                    return true;
                }
                link = froms[link];
            }
            return false;
        }

        private void perform(int point) {
            int kind = listing.kindAt(point);
            int owner = listing.ownerAt(point);
            int x = listing.xs[point];
            int by = listing.goesThroughAt(point) ? held[owner] : NONE;
            if (by != NONE && kinds[by] == PLAN && !awake[by]) {
                touch(spots[by], true, by);
                awake[by] = true;
            }
            int spot = by == NONE ? owner * 3 + listing.pathAt(point) : spotThrough(by, listing.pathAt(point));
            if (kind == USE || kind == SHARE || kind == PLAN) {
                touch(spot, false, by);
            } else if (kind == SET || kind == TAKE) {
                touch(spot, true, by);
            } else if (kind == MOVE) {
                touch(owner * 3, true, NONE);
            }
            if (listing.lendsAt(point) || kind == MOVE) {
                touch(x * 3, true, NONE);
            }
            if (listing.lendsAt(point)) {
                held[x] = make(kind, spot, by);
            } else if (kind == SET && by == NONE) {
                held[owner] = NONE;
            } else if (kind == MOVE && owner != x) {
                held[x] = held[owner];
                held[owner] = NONE;
            }
        }

        private int spotThrough(int reference, int path) {
            boolean whole = spots[reference] % 3 == 0;
            return whole ? spots[reference] + path - DEEP : spots[reference];
        }

        private int make(int kind, int spot, int from) {
            if (made >= MOST_STEPS) {
                return NONE;
            }
            int reference = made;
            made++;
            kinds[reference] = kind;
            spots[reference] = spot;
            froms[reference] = from;
            stale[reference] = false;
            awake[reference] = false;
            spared[reference] = 0;
            return reference;
        }

        private void touch(int spot, boolean writing, int by) {
            accesses++;
            int link = by;
            for (int links = 0; link != NONE && links < MOST_STEPS; links++) {
                spared[link] = accesses;
                link = froms[link];
            }
            for (int reference = 0; reference < made; reference++) {
                if (!stale[reference] && spared[reference] != accesses && meet(spots[reference], spot)) {
                    boolean exclusive = kinds[reference] == TAKE || kinds[reference] == PLAN && awake[reference];
                    stale[reference] = writing || exclusive;
                }
            }
        }

        private static boolean meet(int one, int other) {
            return one == other || one / 3 == other / 3 && (one % 3 == 0 || other % 3 == 0);
        }
    }

    /** A row of numbers of one form, or a lost one. */
    private static final class Sheet {
        final int[] items = new int[ITEMS];
        int form = NONE;
        int size = 0;

        boolean isLost() {
            return form == NONE;
        }

        void renew(int newForm, int newSize) {
            form = newForm;
            size = newSize;
            for (int i = 0; i < ITEMS; i++) {
                items[i] = 0;
            }
        }

        void drop() {
            form = NONE;
            size = 0;
        }

        /** The finding that keeps an item from being treated as of a form; 0, if there is none. */
        int hindrance(int asForm, int i) {
            if (isLost()) {
                return LOST;
            }
            if (form != asForm) {
                return CAST;
            }
            return i < 0 || i >= size ? INDEX : 0;
        }

        boolean hasRow(int start, int many) {
            return start >= 0 && many >= 0 && start <= size && many <= size - start;
        }

        void enter(int i, int v) {
            if (form == 0) {
                items[i] = (byte) v;
            } else {
                items[i] = form == 1 ? (short) v : v;
            }
        }
    }
}
