import java.util.concurrent.Callable;

/** Counts wrong answers, and helps to feed texts. */
final class Check {
    private final String name;
    private String sentence = "";
    private int sentences = 0;
    private int askedBefore = 0;
    private int wrong = 0;
    private int wrongBefore = 0;
    private int asked = 0;

    Check(String name) {
        this.name = name;
    }

    /** Quotes the sentence of the document, or the part of one, that the next answers are about. */
    void about(String quoted) {
        closeSentence();
        sentence = quoted;
        sentences++;
        askedBefore = asked;
        wrongBefore = wrong;
    }

    /** A sentence about which nothing was asked has no test. */
    private void closeSentence() {
        if (sentences > 0 && asked == askedBefore) {
            wrong++;
            System.out.println(name + ": nothing was asked about \"" + sentence + "\"");
        }
    }

    void same(String what, Object got, Object due) {
        asked++;
        if (!due.equals(got)) {
            wrong++;
            if (wrong - wrongBefore <= 5) {
                System.out.println(name + ": " + what + " answered " + got + ", due is " + due
                        + (sentence.isEmpty() ? "" : " (\"" + sentence + "\")"));
            }
        }
    }

    /** Asks for an exception by its simple name. */
    void refuses(String what, String due, Callable<?> call) {
        same(what, answer(call), due);
    }

    /** What a call answers, or the simple name of what it throws. */
    static Object answer(Callable<?> call) {
        try {
            return call.call();
        } catch (Exception e) {
            return e.getClass().getSimpleName();
        }
    }

    int wrong() {
        return wrong;
    }

    /** Ends the program with exit code 1 if an answer was wrong, or nothing was asked. */
    void finish() {
        closeSentence();
        System.out.println(name + ": " + asked + " answers" + (sentences == 0 ? ""
                : " about " + sentences + " sentences") + ", " + wrong + " wrong");
        if (wrong > 0 || asked == 0) {
            System.exit(1);
        }
    }

    static int[] bytes(String text) {
        return text.chars().toArray();
    }

    /** Makes these bytes the text. */
    static void put(StreamRefuter x, int... bytes) {
        x.wipe();
        for (int i = 0; i < bytes.length; i += 8) {
            int n = Math.min(8, bytes.length - i);
            long row = 0;
            for (int k = n - 1; k >= 0; k--) {
                row = row << 8 | bytes[i + k];
            }
            if (!x.feed(n, row)) {
                throw new IllegalStateException("the text is too long");
            }
        }
    }

    static void put(StreamRefuter x, String text) {
        put(x, bytes(text));
    }

    /** A new object with this formula. */
    static StreamRefuter with(String formula) {
        StreamRefuter x = new StreamRefuter();
        put(x, formula);
        x.formula();
        return x;
    }

    /** A new object with this formula and this plain stream. */
    static StreamRefuter with(String formula, String stream) {
        StreamRefuter x = with(formula);
        put(x, stream);
        x.stream(false);
        return x;
    }

    /** A new object with this formula and this record. */
    static StreamRefuter judging(String formula, String record) {
        StreamRefuter x = with(formula);
        put(x, record);
        x.record();
        return x;
    }

    /** The tokens of the record, with blanks between and d for DROP. */
    static String record(StreamRefuter x) {
        StringBuilder row = new StringBuilder();
        int many = x.tokens();
        for (int i = 0; i < many; i++) {
            int v = x.token(i);
            row.append(i == 0 ? "" : " ").append(v == StreamRefuter.DROP ? "d" : String.valueOf(v));
        }
        return row.toString();
    }

    /** The clauses that are marked, with blanks between. */
    static String marks(StreamRefuter x) {
        StringBuilder row = new StringBuilder();
        for (int c = -1; c <= x.clauses() + 1; c++) {
            if (x.marked(c)) {
                row.append(row.length() == 0 ? "" : " ").append(c);
            }
        }
        return row.toString();
    }

    /** The ways of all steps, one digit each. */
    static String ways(StreamRefuter x) {
        StringBuilder row = new StringBuilder();
        for (int s = 1; x.way(s) != StreamRefuter.NONE; s++) {
            row.append(x.way(s));
        }
        return row.toString();
    }
}
