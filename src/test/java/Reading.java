import java.util.concurrent.Callable;

/** Reads texts on objects, and tells in one word what came of it. */
final class Reading {
    private Reading() {
    }

    static String formula(StreamRefuter x, String text) {
        Check.put(x, text);
        return outcome(x, x::formula);
    }

    static String stream(StreamRefuter x, String text) {
        Check.put(x, text);
        return outcome(x, () -> x.stream(false));
    }

    static String packed(StreamRefuter x, int... bytes) {
        Check.put(x, bytes);
        return outcome(x, () -> x.stream(true));
    }

    static String record(StreamRefuter x, String text) {
        Check.put(x, text);
        return outcome(x, x::record);
    }

    /** What a reading answers, or the place of its fault; both of them if they do not agree. */
    static String outcome(StreamRefuter x, Callable<?> call) {
        Object answer = Check.answer(call);
        boolean refused = answer.equals("IllegalArgumentException");
        int place = x.fault();
        if (refused != (place != 0)) {
            return answer + " and fault() " + place;
        }
        return refused ? "fault " + place : answer.toString();
    }

    /** Pairs of a text and what is due for it, each read as a formula by a new object. */
    static void formulas(Check check, String... pairs) {
        for (int i = 0; i < pairs.length; i += 2) {
            check.same("formula() of '" + pairs[i] + "'", formula(new StreamRefuter(), pairs[i]),
                    pairs[i + 1]);
        }
    }

    /** Pairs of a text and what is due for it, each read as a plain stream by a new object. */
    static void streams(Check check, String formula, String... pairs) {
        for (int i = 0; i < pairs.length; i += 2) {
            check.same("stream(false) of '" + pairs[i] + "' behind '" + formula + "'",
                    stream(Check.with(formula), pairs[i]), pairs[i + 1]);
        }
    }

    /** Pairs of a text and what is due for it, each read as a record by a new object. */
    static void records(Check check, String... pairs) {
        for (int i = 0; i < pairs.length; i += 2) {
            check.same("record() of '" + pairs[i] + "'", record(new StreamRefuter(), pairs[i]),
                    pairs[i + 1]);
        }
    }

    /** Pairs of a record and the verdict on it, each judged by a new object. */
    static void verdicts(Check check, String formula, String... pairs) {
        for (int i = 0; i < pairs.length; i += 2) {
            StreamRefuter x = Check.judging(formula, pairs[i]);
            String what = "judge() of '" + pairs[i] + "' by '" + formula + "'";
            check.same(what, String.valueOf(x.judge()), pairs[i + 1]);
            check.same(what + " again", String.valueOf(x.judge()), pairs[i + 1]);
            check.same("the tokens behind " + what, Check.record(x), pairs[i]);
        }
    }

    /** Pairs of a stream and its end, each found by a new object. */
    static void ends(Check check, String formula, String... pairs) {
        for (int i = 0; i < pairs.length; i += 2) {
            StreamRefuter x = Check.with(formula, pairs[i]);
            String what = "end() of '" + formula + "' with '" + pairs[i] + "'";
            check.same(what, String.valueOf(x.end()), pairs[i + 1]);
            check.same(what + " again", String.valueOf(x.end()), pairs[i + 1]);
        }
    }

    /** All that can be asked of an object, but for fault(), and the text, which only wipe() tells. */
    static String state(StreamRefuter x) {
        StringBuilder row = new StringBuilder("clauses " + x.clauses() + ":");
        for (int c = 0; c <= x.clauses() + 1; c++) {
            for (int k = 0; x.literal(c, k) != 0; k++) {
                row.append(" ").append(x.literal(c, k));
            }
            row.append(";");
        }
        row.append(" end ").append(Check.answer(x::end));
        row.append(" forward ").append(Check.answer(x::forward));
        row.append(" marks ").append(Check.marks(x));
        row.append(" ways ").append(Check.ways(x));
        row.append(" tokens ").append(x.tokens()).append(": ").append(Check.record(x));
        row.append(" judge ").append(Check.answer(x::judge));
        return row.toString();
    }
}
