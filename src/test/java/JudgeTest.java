/** Promise 18, and what JUDGING says. */
public final class JudgeTest {
    private static final String SQUARE = "p cnf 3 4 1 2 0 -1 2 0 1 -2 0 -1 -2 0";

    public static void main(String[] args) {
        Check check = new Check("JudgeTest");
        implied(check);
        dropping(check);
        spared(check);
        clauses(check);
        broken(check);
        byTheFormulaAlone(check);
        check.finish();
    }

    private static void verdicts(Check check, String formula, String[][] runs) {
        for (String[] run : runs) {
            StreamRefuter x = Check.judging(formula, run[0]);
            String what = "judge() of " + run[0];
            check.same(what, x.judge(), Integer.parseInt(run[1]));
            check.same(what + " again", x.judge(), Integer.parseInt(run[1]));
            check.same("tokens stay", Check.record(x), run[0]);
        }
    }

    private static void implied(Check check) {
        verdicts(check, SQUARE, new String[][] {
            {"", "0"},
            {"5 2 0 1 2 0", "0"},
            {"5 2 0 1 2 0 6 0 5 3 4 0", "2"},
            {"5 2 0 2 1 0 6 0 5 4 3 0", "2"},
            {"5 2 0 1 2 0 6 0 5 3 4 0 1 0 0", "2"},
            // numbers rise, and begin above those of the formula
            {"4 2 0 1 2 0", "-1"},
            {"0 2 0 1 2 0", "-1"},
            {"-5 2 0 1 2 0", "-1"},
            {"5 2 0 1 2 0 5 0 5 3 4 0", "-2"},
            {"7 2 0 1 2 0 6 0 7 3 4 0", "-2"},
            {"70 2 0 1 2 0 9999 0 70 3 4 0", "2"},
            // hints that are not known, not ready, or come behind the conflict
            {"5 2 0 9 0", "-1"},
            {"5 2 0 5 0", "-1"},
            {"5 2 0 1 2 0 6 0 6 3 4 0", "-2"},
            {"5 2 0 3 1 2 0", "-1"},
            {"5 2 0 1 1 0", "-1"},
            {"5 3 2 0 1 2 0", "0"},
            {"5 3 0 1 2 0", "-1"},
            {"5 2 0 1 2 3 0", "-1"},
            {"5 2 0 1 2 2 0", "-1"},
            {"5 2 0 1 2 -3 0", "-1"},
            // no conflict: the pivot's opposite is in two clauses
            {"5 2 0 1 0", "-1"},
            {"5 2 0 0", "-1"},
            // an empty clause needs a conflict
            {"5 0 0", "-1"},
            {"5 0 1 0", "-1"},
            {"5 0 -1 0", "-1"},
            {"5 3 0 0 6 0 5 0", "-2"},
            {"5 3 0 0", "0"},
        });
        verdicts(check, "p cnf 1 1 0", new String[][] {
            {"2 0 1 0", "1"},
            {"2 1 0 1 0", "0"},
            {"2 d 1 0 3 0 1 0", "-2"},
        });
        verdicts(check, "p cnf 1 0", new String[][] {
            {"0 1 0 0", "-1"},
            {"1 1 0 0", "0"},
            {"1 1 0 0 2 -1 0 0", "-2"},
            {"1 1 0 0 2 d 1 0 2 -1 0 0", "0"},
        });
    }

    private static void dropping(Check check) {
        verdicts(check, SQUARE, new String[][] {
            {"4 d 0", "0"},
            {"-9999 d 1 2 3 4 0", "0"},
            {"4 d 1 1 0", "-1"},
            {"4 d 1 0 4 d 1 0", "-2"},
            {"4 d 5 0", "-1"},
            {"4 d -1 0", "-1"},
            {"4 d 1 0 5 2 0 1 2 0", "-2"},
            {"4 d 3 0 5 2 0 1 2 0", "0"},
            {"5 2 0 1 2 0 5 d 1 2 0 6 0 5 3 4 0", "3"},
            {"5 2 0 1 2 0 0 d 5 0 6 0 5 3 4 0", "-3"},
            // its number is no clause's
            {"9 d 0 5 2 0 1 2 0 6 0 5 3 4 0", "3"},
            // what is dropped need not be named, and may not be
            {"5 -3 1 0 0 5 d 5 0 6 3 0 0", "0"},
            {"5 -3 1 0 0 5 d 5 0 6 3 0 -5 1 3 0", "-3"},
        });
    }

    private static void spared(Check check) {
        String one = "5 -3 1 0 0 ";
        String two = "5 -3 1 0 0 6 -3 2 0 0 ";
        verdicts(check, SQUARE, new String[][] {
            {one + "6 3 0 -5 1 3 0", "0"},
            {one + "6 3 0 -5 3 1 0", "0"},
            {one + "6 3 0 0", "-2"},
            {one + "6 3 0 -5 0", "-2"},
            {one + "6 3 0 -5 1 0", "-2"},
            {one + "6 3 0 -5 1 3 2 0", "-2"},
            {one + "6 3 0 -5 1 3 -5 1 3 0", "-2"},
            {one + "6 3 0 -5 1 3 -1 0", "-2"},
            {one + "6 3 0 -1 -5 1 3 0", "-2"},
            {one + "6 3 0 -5 1 3 -6 0", "-2"},
            {one + "6 3 0 -5 1 3 -9999 0", "-2"},
            {one + "6 3 0 -5 1 9 0", "-2"},
            {one + "6 3 0 -5 2 3 0", "-2"},
            // some other literal of the named clause is true
            {one + "6 3 -1 0 -5 0", "0"},
            {one + "6 3 -1 0 -5 4 0", "-2"},
            {one + "6 3 2 0 1 -5 0", "0"},
            {one + "6 3 2 0 -5 1 2 0", "-2"},
            {one + "6 3 2 0 -5 1 0", "0"},
            {one + "6 3 2 0 1 -5 2 0", "-2"},
            // literals become what they were behind each name
            {two + "7 3 0 -5 1 3 -6 1 2 0", "0"},
            {two + "7 3 0 -6 1 2 -5 1 3 0", "0"},
            {two + "7 3 0 -5 1 3 -6 2 1 0", "0"},
            {two + "7 3 0 -5 1 3 0", "-3"},
            {two + "7 3 0 -5 1 3 -6 2 0", "-3"},
            {two + "7 3 0 -5 1 3 -5 1 3 0", "-3"},
            {two + "7 3 -2 0 4 -5 3 -6 0", "0"},
            {two + "7 3 -2 0 -5 3 -6 0", "0"},
            {two + "7 3 -2 -1 0 -5 -6 0", "0"},
            {two + "7 3 -1 0 2 4 0", "0"},
            {two + "7 3 -1 0 2 -5 -6 0", "0"},
            // the pivot is the first literal
            {one + "6 2 3 0 -3 -4 -5 0", "-2"},
            {one + "6 -1 3 0 -1 2 0", "-2"},
            // a clause that was spared is known like others
            {two + "7 3 0 -5 1 3 -6 1 2 0 8 1 0 7 5 0 9 0 8 3 4 0", "-5"},
            {two + "7 3 0 -5 1 3 -6 1 2 0 8 1 0 7 5 0 9 0 8 4 3 0", "-5"},
            {two + "7 3 0 -5 1 3 -6 1 2 0 8 1 0 7 5 0 9 0 8 2 4 0", "5"},
        });
    }

    /** What a line's literals may be. */
    private static void clauses(Check check) {
        verdicts(check, SQUARE, new String[][] {
            {"5 4 0 0", "-1"},
            {"5 -4 0 0", "-1"},
            {"5 9999 0 0", "-1"},
            {"5 3 3 0 0", "-1"},
            {"5 3 -3 0 0", "-1"},
            {"5 3 1 -2 0 0", "0"},
        });
        verdicts(check, "p cnf 16 0", new String[][] {
            {"1 1 2 3 4 5 6 7 8 9 10 11 12 13 14 15 16 0 0", "0"},
            {"1 -16 15 -14 13 -12 11 -10 9 0 0", "0"},
            {"1 -16 15 -14 13 -12 11 -10 9 16 0 0", "-1"},
            {"1 17 0 0", "-1"},
        });
    }

    /** Tokens that were altered so that they are no lines. */
    private static void broken(Check check) {
        String record = "5 2 0 1 2 0 5 d 1 2 0 6 0 5 3 4 0";
        int drop = StreamRefuter.DROP;
        int[][] changes = {{0, drop, -1}, {1, drop, -2}, {2, drop, -1}, {3, drop, -1}, {4, drop, -1},
            {5, drop, -1}, {5, 1, -1}, {2, 3, -1}, {6, drop, -2}, {7, 1, -2}, {7, 0, -2},
            {8, drop, -2}, {9, 0, -3}, {10, drop, -2}, {10, 9, -2}, {11, drop, -3}, {12, drop, 0},
            {13, drop, -3}, {16, drop, -3}, {16, 3, -3}, {16, -3, -3}, {1, 0, -1}, {11, 9999, 3}};
        for (int[] change : changes) {
            StreamRefuter x = Check.judging(SQUARE, record);
            check.same("alter", x.alter(change[0], change[1]), true);
            check.same("judge() with token " + change[0] + " altered to " + change[1], x.judge(),
                    change[2]);
        }
        // What is behind the first good line of an empty clause is not looked at.
        StreamRefuter x = Check.judging(SQUARE, record + " 7 d 0 8 0 0");
        for (int i = 17; i < 23; i++) {
            check.same("alter(" + i + ")", x.alter(i, drop), true);
            check.same("judge()", x.judge(), 3);
        }
        // A row of tokens may end in the middle of its first line.
        StreamRefuter y = Check.judging(SQUARE, "5 3 0 0");
        y.alter(3, 1);
        check.same("judge() of a line without an end", y.judge(), -1);
        y.alter(1, drop);
        y.alter(2, 1);
        check.same("judge() of a dropping line without an end", y.judge(), -1);
    }

    /** What the stream adds is not known, and judging needs no stream. */
    private static void byTheFormulaAlone(Check check) {
        StreamRefuter x = Check.with(SQUARE, "2 0");
        Check.put(x, "6 0 5 3 4 0");
        x.record();
        check.same("judge() by the formula", x.judge(), -1);
        StreamRefuter y = new StreamRefuter();
        Check.put(y, "6 0 5 3 4 0");
        y.record();
        check.refuses("judge() without a formula", "IllegalStateException", y::judge);
        check.same("tokens stay", y.tokens(), 6);
    }
}
