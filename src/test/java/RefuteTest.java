/** Promises 12, 13 and 14, and what REFUTING and THE RECORD say. */
public final class RefuteTest {
    private static final String SQUARE = "p cnf 4 4 1 2 0 -1 2 0 1 -2 0 -1 -2 0";
    private static final String CUBE = "1 2 4 0 1 -2 4 0 -1 2 4 0 -1 -2 4 0 1 2 -4 0 1 -2 -4 0 "
            + "-1 2 -4 0 -1 -2 -4 0 ";

    public static void main(String[] args) {
        Check check = new Check("RefuteTest");
        written(check);
        refused(check);
        aBase(check);
        theFirstTrueOne(check);
        theLastNumber(check);
        again(check);
        outside(check);
        check.finish();
    }

    /** Formula, stream, how many lines, the record, the marks, the ways. */
    private static void written(Check check) {
        String[][] runs = {
            // a conflict of the formula alone
            {"p cnf 2 3 2 0 1 0 -1 0", "2 0 d 1 0", "1", "3 d 1 0 4 0 2 3 0", "2 3", "00"},
            {"p cnf 2 2 1 0 0", "", "1", "2 d 1 0 3 0 2 0", "2", ""},
            {"p cnf 1 1 0", "0", "1", "2 0 1 0", "1", "0"},
            // what is not needed is not looked at, be it right or wrong
            {SQUARE, "2 0", "2", "5 2 0 1 2 0 5 d 1 2 0 6 0 5 3 4 0", "1 2 3 4 5", "1"},
            {SQUARE, "3 0 2 0", "2", "6 2 0 1 2 0 6 d 1 2 0 7 0 6 3 4 0", "1 2 3 4 6", "01"},
            {SQUARE, "d 3 0 2 0 d 1 2 0 0 2 1 0", "2", "5 2 0 1 2 0 5 d 1 2 0 6 0 5 3 4 0",
                "1 2 3 4 5", "01000"},
            // the empty clause bears the number of an addition behind the end
            {SQUARE, "1 0 2 0 -2 0", "2", "5 1 0 1 3 0 5 d 1 3 0 6 0 5 2 4 0", "1 2 3 4 5", "100"},
            // candidates are marked clauses alone: clause 9 is not
            {"p cnf 5 9 " + CUBE + "3 5 0", "-3 1 0 3 4 1 0 1 0 -1 4 0", "5",
                "9 d 9 0 10 -3 1 0 0 11 3 4 1 0 1 2 0 11 d 1 2 0 12 1 0 10 11 5 6 0 "
                + "12 d 5 6 10 11 0 13 -1 4 0 3 4 0 13 d 3 4 0 14 0 12 13 7 8 0",
                "1 2 3 4 5 6 7 8 10 11 12 13", "2111"},
        };
        for (String[] run : runs) {
            StreamRefuter x = Check.with(run[0], run[1]);
            String what = " of " + run[0] + " with " + run[1];
            check.same("refute()" + what, x.refute(), Integer.parseInt(run[2]));
            check.same("the record" + what, Check.record(x), run[3]);
            check.same("the marks" + what, Check.marks(x), run[4]);
            check.same("the ways" + what, Check.ways(x), run[5]);
            check.same("judge()" + what, x.judge() > 0, true);
        }
    }

    /** No end, or a step that is neither implied nor spared: nothing changes. */
    private static void refused(Check check) {
        String[][] runs = {
            {"p cnf 1 0", "", "0"},
            {SQUARE, "3 0 d 1 2 0", "0"},
            {"p cnf 1 0", "0", "-1"},
            {"p cnf 2 2 1 2 0 1 -2 0", "-2 0 1 0 0", "-3"},
            {"p cnf 2 1 1 0", "2 0 -1 0", "-2"},
            {"p cnf 3 3 1 2 0 1 -2 0 3 0", "-1 -3 0", "-1"},
            {SQUARE, "d 1 2 0 2 0", "-2"},
            {SQUARE, "3 0 -3 4 0 -4 0 2 0", "-3"},
            {"p cnf 3 4 1 2 0 -1 2 0 1 -2 0 -1 -2 0",
                "3 -1 -2 0 -3 1 0 -3 2 0 d 1 -2 0 -3 0 1 0", "-6"},
        };
        for (String[] run : runs) {
            StreamRefuter x = Check.with(run[0], run[1]);
            Check.put(x, "7 d 1 0 8 1 0 -2 0");
            x.record();
            String what = " of " + run[0] + " with " + run[1];
            check.same("refute()" + what, x.refute(), Integer.parseInt(run[2]));
            check.same("the record stays" + what, Check.record(x), "7 d 1 0 8 1 0 -2 0");
            check.same("no marks" + what, Check.marks(x), "");
            check.same("no ways" + what, Check.ways(x).replace("0", ""), "");
        }
        StreamRefuter x = Check.with(SQUARE);
        check.refuses("refute() without a stream", "IllegalStateException", x::refute);
    }

    /** Clause 15 is spared by what clause 1 makes true, before any candidate. */
    private static void aBase(Check check) {
        String formula = formulaOfThirteen();
        String rest = "1 -2 4 0 1 0 -1 2 4 0 -1 2 0 -1 -2 4 0";
        StreamRefuter x = Check.with(formula, "-3 1 0 3 2 0 d 2 1 0 " + rest);
        check.same("end()", x.end(), 8);
        check.same("forward()", x.forward(), 0);
        check.same("refute()", x.refute(), 8);
        check.same("the record", Check.record(x), "14 -3 1 0 0 15 3 2 0 1 -14 0 15 d 1 0 "
                + "16 1 -2 4 0 2 3 0 16 d 2 3 0 17 1 0 14 15 16 4 5 0 17 d 4 5 14 15 16 0 "
                + "18 -1 2 4 0 6 7 0 18 d 6 7 0 19 -1 2 0 18 8 9 0 19 d 8 9 18 0 "
                + "20 -1 -2 4 0 10 11 0 20 d 10 11 0 21 0 17 19 20 12 13 0");
        check.same("the ways", Check.ways(x), "22011111");
        check.same("judge()", x.judge(), 14);
        // The candidate has the opposite of the pivot as its second literal.
        StreamRefuter y = Check.with(formula, "-3 1 0 1 -3 0 d -3 1 0 3 2 0 d 2 1 0 " + rest);
        check.same("refute()", y.refute(), 9);
        check.same("the record", Check.record(y), "14 -3 1 0 0 15 1 -3 0 14 0 15 d 14 0 "
                + "16 3 2 0 1 -15 0 16 d 1 0 17 1 -2 4 0 2 3 0 17 d 2 3 0 "
                + "18 1 0 15 16 17 4 5 0 18 d 4 5 15 16 17 0 "
                + "19 -1 2 4 0 6 7 0 19 d 6 7 0 20 -1 2 0 19 8 9 0 20 d 8 9 19 0 "
                + "21 -1 -2 4 0 10 11 0 21 d 10 11 0 22 0 18 20 21 12 13 0");
        check.same("the ways", Check.ways(y), "2102011111");
    }

    /**
     * The clause 20, 3 1, is spared by a candidate with two other literals that are true, for two
     * reasons. The first one in the candidate's order tells what is needed.
     */
    private static void theFirstTrueOne(Check check) {
        StringBuilder formula = new StringBuilder("p cnf 6 18 1 2 0 1 4 0");
        for (String some : new String[] {"1 2 -4", "1 -2 4", "1 -2 -4", "-1"}) {
            for (String more : new String[] {"5 6", "5 -6", "-5 6", "-5 -6"}) {
                formula.append(" ").append(some).append(" ").append(more).append(" 0");
            }
        }
        String rest = " 0 3 1 0 d 1 2 0 d 4 1 0 -1 5 0 -1 0 1 -2 -4 5 0 1 -2 -4 0 1 -2 4 5 0 "
                + "1 -2 0 1 2 -4 5 0";
        StreamRefuter x = Check.with(formula.toString(), "-3 2 4" + rest);
        check.same("refute()", x.refute(), 10);
        check.same("the first tokens", Check.record(x).startsWith(
                "18 d 2 0 19 -3 2 4 0 0 20 3 1 0 1 -19 0 20 d 1 0 21 -1 5 0 15 16 0 "), true);
        StreamRefuter y = Check.with(formula.toString(), "-3 4 2" + rest);
        check.same("refute()", y.refute(), 10);
        check.same("the first tokens", Check.record(y).startsWith(
                "18 d 1 0 19 -3 4 2 0 0 20 3 1 0 2 -19 0 20 d 2 0 21 -1 5 0 15 16 0 "), true);
        check.same("judge()", x.judge() > 0 && y.judge() > 0, true);
    }

    private static String formulaOfThirteen() {
        StringBuilder formula = new StringBuilder("p cnf 5 13 1 2 0");
        for (String two : new String[] {"1 -2", "-1 2", "-1 -2"}) {
            for (String more : new String[] {"4 5", "4 -5", "-4 5", "-4 -5"}) {
                formula.append(" ").append(two).append(" ").append(more).append(" 0");
            }
        }
        return formula.toString();
    }

    /** With 63 clauses the empty one is number 64. */
    private static void theLastNumber(Check check) {
        StreamRefuter x = Check.with(SQUARE, "1 2 0 ".repeat(58) + "2 0");
        check.same("clauses()", x.clauses(), 63);
        check.same("refute()", x.refute(), 2);
        check.same("the record", Check.record(x), "63 2 0 1 2 0 63 d 1 2 0 64 0 63 3 4 0");
        check.same("the marks", Check.marks(x), "1 2 3 4 63");
        check.same("way(58)", x.way(58), 0);
        check.same("way(59)", x.way(59), 1);
        check.same("judge()", x.judge(), 3);
    }

    /** A second refuting writes the same, in place of what was altered. */
    private static void again(Check check) {
        StreamRefuter x = Check.with(SQUARE, "2 0");
        x.refute();
        String record = Check.record(x);
        x.alter(0, 9);
        check.same("refute() again", x.refute(), 2);
        check.same("the record again", Check.record(x), record);
        Check.put(x, "3 0 2 0");
        x.stream(false);
        check.same("no marks by this stream", Check.marks(x), "");
        check.same("refute() by another stream", x.refute(), 2);
        check.same("its ways", Check.ways(x), "01");
    }

    /** Clauses and steps that there are not. */
    private static void outside(Check check) {
        StreamRefuter x = Check.with(SQUARE, "2 0 d 1 0");
        x.refute();
        for (int c : new int[] {0, -1, 6, 63, 64, 65, 69, Integer.MAX_VALUE, Integer.MIN_VALUE}) {
            check.same("marked(" + c + ")", x.marked(c), false);
        }
        for (int s : new int[] {0, -1, 3, 80, 81, Integer.MAX_VALUE, Integer.MIN_VALUE}) {
            check.same("way(" + s + ")", x.way(s), StreamRefuter.NONE);
        }
        check.same("way(2): a deletion behind the end", x.way(2), 0);
    }
}
