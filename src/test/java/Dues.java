/** Counts answers, and prints each that is not the one that is due. */
final class Dues {
    private final String name;
    private int answers = 0;
    private int wrong = 0;

    Dues(String name) {
        this.name = name;
    }

    void due(String call, long got, long want) {
        answers++;
        if (got != want) {
            wrong++;
            System.out.println(name + ": " + call + " answered " + got + ", due is " + want);
        }
    }

    void end() {
        System.out.println(name + ": " + answers + " answers, " + wrong + " not as due");
        if (wrong != 0 || answers == 0) {
            System.exit(1);
        }
    }

    /** A new object with statements, four numbers each; a place is written as 10 times its variable, and its path. */
    static LoanPoints program(int... numbers) {
        LoanPoints points = new LoanPoints();
        for (int i = 0; i + 3 < numbers.length; i += 4) {
            points.add(numbers[i], numbers[i + 1], place(numbers[i + 2]), numbers[i + 3]);
        }
        return points;
    }

    static int place(int written) {
        return written / 10 * 6 + written % 10;
    }

    static int bits(int... numbers) {
        int out = 0;
        for (int n : numbers) {
            out |= 1 << n;
        }
        return out;
    }
}
