import java.util.HashSet;
import java.util.Set;

/** Counts answers, and prints each that is not the one that is due. */
final class Dues {
    private final String name;
    private String sentence = "";
    private final Set<String> sentences = new HashSet<>();
    private int answersAhead = 0;
    private int answers = 0;
    private int wrong = 0;

    Dues(String name) {
        this.name = name;
    }

    /** What is due from here on, in the document's own words. */
    void sentence(String words) {
        endSentence();
        sentence = words;
        sentences.add(words);
        answersAhead = answers;
    }

    private void endSentence() {
        if (!sentences.isEmpty() && answers == answersAhead) {
            wrong++;
            System.out.println(name + ": \"" + sentence + "\" has no test");
        }
    }

    void due(String call, long got, long want) {
        answers++;
        if (got != want) {
            wrong++;
            System.out.println(name + place() + ": " + call + " answered " + got + ", due is " + want);
        }
    }

    void due(String call, String got, String want) {
        answers++;
        if (!got.equals(want)) {
            wrong++;
            System.out.println(name + place() + ": " + call + ":\n  " + got + "\n  is not\n  " + want);
        }
    }

    private String place() {
        return sentence.isEmpty() ? "" : ", \"" + sentence + "\"";
    }

    void end() {
        endSentence();
        String told = sentences.isEmpty() ? "" : sentences.size() + " sentences, ";
        System.out.println(name + ": " + told + answers + " answers, " + wrong + " not as due");
        if (wrong != 0 || answers == 0) {
            System.exit(1);
        }
    }

    /** A new object with statements, four numbers each; a place is written as 10 times its variable, and its path. */
    static LoanPoints program(int... numbers) {
        LoanPoints points = new LoanPoints();
        for (int i = 0; i + 3 < numbers.length; i += 4) {
            points.add(numbers[i], numbers[i + 1], place(numbers[i + 2]), numbers[i + 3]);
        }
        return points;
    }

    static int place(int written) {
        return written / 10 * 6 + written % 10;
    }

    static int bits(int... numbers) {
        int out = 0;
        for (int n : numbers) {
            out |= 1 << n;
        }
        return out;
    }
}
