/** What an object answers, as texts: two objects with one text are alike in all that it has. */
final class Whole {
    private static final int LOST = 1, CAST = 3;

    private Whole() {
    }

    /** The whole state but count(8): what is found, the statements, the sheets. It leaves another latest finding. */
    static String of(LoanPoints x) {
        StringBuilder out = new StringBuilder("digest " + x.digest());
        int size = x.count(0);
        for (int p = 0; p < size; p++) {
            out.append("; ").append(p).append(':');
            for (int what = 0; what < 4; what++) {
                out.append(' ').append(x.code(p, what));
            }
        }
        for (int s = 0; s < 4; s++) {
            out.append("; sheet ").append(s).append(' ').append(sheet(x, s));
        }
        return out.toString();
    }

    /** All that is found of the statements, but what code() tells of them. */
    static String found(LoanPoints x) {
        StringBuilder out = new StringBuilder("live");
        for (int v = 0; v < 8; v++) {
            out.append(' ').append(x.live(v));
        }
        int size = x.count(0);
        out.append(", next");
        for (int p = 0; p < size; p++) {
            out.append(' ').append(x.next(p));
        }
        out.append(", mend ").append(x.mend(0)).append(' ').append(x.mend(1)).append(", soft ").append(x.soft());
        int all = (1 << size) - 1;
        return out + ", " + foundAt(x, all) + ", " + runs(x);
    }

    /** What is found at points (bits), or of all: neither what is live, nor what is next, nor plans and runs. */
    static String foundAt(LoanPoints x, int points) {
        StringBuilder out = new StringBuilder("counts");
        for (int what = 0; what <= 7; what++) {
            out.append(' ').append(x.count(what));
        }
        out.append(", reached ").append(x.reached()).append(", loans ").append(x.loans()).append(", regions");
        for (int v = 0; v < 8; v++) {
            out.append(' ').append(x.region(v));
        }
        for (int p = 0; p < 24; p++) {
            if ((points >> p & 1) == 1) {
                out.append("; ").append(p).append(" holds");
                for (int v = 0; v < 8; v++) {
                    out.append(' ').append(x.holds(p, v));
                }
                out.append(", scope ").append(x.scope(p)).append(", active ").append(x.active(p)).append(", bears ").append(x.bears(p));
            }
        }
        return out + "; errors" + errors(x);
    }

    static String errors(LoanPoints x) {
        StringBuilder out = new StringBuilder();
        int many = x.errors();
        for (int i = 0; i < many; i++) {
            out.append(' ').append(x.error(i, 0)).append('.').append(x.error(i, 1)).append('.').append(x.error(i, 2));
            int points = x.witness(i, -1);
            for (int j = 0; j < points; j++) {
                out.append(j == 0 ? "(" : " ").append(x.witness(i, j)).append(j == points - 1 ? ")" : "");
            }
        }
        return out.toString();
    }

    static String runs(LoanPoints x) {
        StringBuilder out = new StringBuilder("runs");
        for (int choices : new int[] {0, 1, 2, -1}) {
            out.append(' ').append(x.run(choices, 40, 0)).append('.').append(x.run(choices, 40, 1)).append('.').append(x.run(choices, 40, 2));
        }
        return out.toString();
    }

    private static String sheet(LoanPoints x, int s) {
        for (int form = 0; form < 3; form++) {
            int finding = findingOf(x, s, form);
            if (finding == LOST) {
                return "is lost";
            }
            if (finding != CAST) {
                return items(x, s, form);
            }
        }
        return "has no form";
    }

    private static String items(LoanPoints x, int s, int form) {
        StringBuilder out = new StringBuilder("of form " + form + ":");
        // an item that can be copied to itself is there
        for (int i = 0; i < 70 && x.copy(s, i, s, i, 1) == 1; i++) {
            out.append(' ').append(x.get(s, form, i));
        }
        return out.toString();
    }

    /** What get() finds amiss with the first item: a finding that get() never makes goes ahead, and stays if there is none. */
    private static int findingOf(LoanPoints x, int s, int form) {
        x.sheet(0, 0, -1);
        x.get(s, form, 0);
        return x.count(8);
    }
}
