/** Promise 18, and what JUDGING says. */
public final class JudgeTest {
    private static final String SQUARE = "p cnf 3 4 1 2 0 -1 2 0 1 -2 0 -1 -2 0";
    // Lines of one clause and of two that have -3: what is spared by 3 must name them.
    private static final String ONE = "5 -3 1 0 0 ";
    private static final String TWO = "5 -3 1 0 0 6 -3 2 0 0 ";

    public static void main(String[] args) {
        Check check = new Check("JudgeTest");
        known(check);
        dropping(check);
        lineNumbers(check);
        literals(check);
        readyHints(check);
        conflictLast(check);
        namedOnce(check);
        trueLiteral(check);
        behindAName(check);
        trueAgain(check);
        knownFromThenOn(check);
        noLines(check);
        emptyClauseLine(check);
        firstThatIsNotGood(check);
        allGood(check);
        byTheFormula(check);
        withoutFormula(check);
        check.finish();
    }

    private static void judged(Check check, String... pairs) {
        Reading.verdicts(check, SQUARE, pairs);
    }

    private static void known(Check check) {
        check.about("KNOWN are, at first, the clauses of the formula by their numbers.");
        judged(check, "5 2 0 1 2 0", "0", "5 2 0 2 1 0", "0", "5 -2 0 3 4 0", "0",
                "5 2 0 0", "-1", "5 2 0 9 0", "-1", "5 2 0 5 0", "-1", "5 2 0 6 0", "-1");
        Reading.verdicts(check, "p cnf 1 0", "1 1 0 1 0", "-1", "1 1 0 0", "0");
        Reading.verdicts(check, "p cnf 1 40" + " 1 0".repeat(40), "41 1 0 40 0", "0",
                "41 1 0 41 0", "-1", "41 d 40 0", "0", "41 d 41 0", "-1");
    }

    private static void dropping(Check check) {
        check.about("a dropping line is GOOD when each number behind its d is that of a known "
                + "clause, which is then known no more");
        judged(check, "4 d 0", "0", "4 d 1 2 3 4 0", "0", "4 d 4 3 2 1 0", "0",
                // its own number is no clause's
                "-9999 d 1 0", "0", "0 d 1 0", "0", "9 d 0 5 2 0 1 2 0 6 0 5 3 4 0", "3",
                // not known: never, no more, or not yet
                "4 d 5 0", "-1", "4 d -1 0", "-1", "4 d 9999 0", "-1", "4 d 1 1 0", "-1",
                "4 d 1 2 1 0", "-1", "4 d 1 0 4 d 1 0", "-2", "4 d 1 0 5 2 0 1 2 0", "-2",
                "4 d 3 0 5 2 0 1 2 0", "0", "5 2 0 1 2 0 5 d 1 2 0 6 0 5 3 4 0", "3",
                "5 2 0 1 2 0 0 d 5 0 6 0 5 3 4 0", "-3",
                // what is dropped need not be named, and may not be
                "5 -3 1 0 0 5 d 5 0 6 3 0 0", "0", "5 -3 1 0 0 5 d 5 0 6 3 0 -5 1 3 0", "-3",
                // a number that was dropped is not free again
                "5 3 0 0 5 d 5 0 5 3 0 0", "-3", "5 3 0 0 5 d 5 0 6 3 0 0 6 d 5 0", "-4");
    }

    private static void lineNumbers(Check check) {
        check.about("its number is greater than M and than those of all such lines before it");
        judged(check, "4 2 0 1 2 0", "-1", "0 2 0 1 2 0", "-1", "-5 2 0 1 2 0", "-1",
                "-9999 2 0 1 2 0", "-1", "1 2 0 1 2 0", "-1", "5 2 0 1 2 0", "0",
                "9999 2 0 1 2 0", "0", "5 2 0 1 2 0 5 0 5 3 4 0", "-2",
                "7 2 0 1 2 0 6 0 7 3 4 0", "-2", "7 2 0 1 2 0 8 0 7 3 4 0", "2",
                "70 2 0 1 2 0 9999 0 70 3 4 0", "2",
                // those of dropping lines do not count
                "99 d 0 5 2 0 1 2 0 3 d 0 6 0 5 3 4 0", "4");
        Reading.verdicts(check, "p cnf 1 0", "0 1 0 0", "-1", "1 1 0 0", "0", "1 1 0 0 1 1 0 1 0",
                "-2");
    }

    private static void literals(Check check) {
        check.about("the numbers behind that, up to the 0, are the literals of a clause (of any "
                + "length)");
        judged(check, "5 4 0 0", "-1", "5 -4 0 0", "-1", "5 9999 0 0", "-1", "5 -9999 0 0", "-1",
                "5 17 0 0", "-1", "5 33 0 0", "-1", "5 3 3 0 0", "-1", "5 3 -3 0 0", "-1",
                "5 3 1 -2 0 0", "0", "5 3 0 0", "0");
        Reading.verdicts(check, "p cnf 16 0", "1 1 2 3 4 5 6 7 8 9 10 11 12 13 14 15 16 0 0", "0",
                "1 -16 15 -14 13 -12 11 -10 9 0 0", "0", "1 -16 15 -14 13 -12 11 -10 9 16 0 0", "-1",
                "1 17 0 0", "-1", "1 -17 0 0", "-1");
    }

    private static void readyHints(Check check) {
        check.about("each must be that of a known clause that is ready, of which a literal that is "
                + "not false becomes true");
        judged(check, "5 1 2 0 1 0", "0", "5 3 2 0 1 2 0", "0", "5 2 0 1 2 0", "0",
                // two of its literals are not false
                "5 3 0 1 2 0", "-1", "5 3 0 1 4 0", "-1", "5 0 1 4 0", "-1",
                // one is true, from the first or by another hint
                "5 2 0 3 1 2 0", "-1", "5 1 2 0 2 0", "-1", "5 2 1 0 3 0", "-1",
                "5 2 0 1 1 0", "-1", "5 2 0 1 1 2 0", "-1", "5 2 3 0 1 3 2 0", "-1");
    }

    private static void conflictLast(Check check) {
        check.about("If there is none, this is the conflict, and it must be at the line's last "
                + "number");
        judged(check, "5 2 0 1 2 0", "0", "5 2 0 1 2 3 0", "-1", "5 2 0 1 2 2 0", "-1",
                "5 2 0 1 2 1 0", "-1", "5 2 0 1 2 -3 0", "-1", "5 2 0 1 2 -3 -4 0", "-1",
                ONE + "6 3 2 0 1 2 -5 0", "-2", "5 2 0 1 2 9 0", "-1");
        Reading.verdicts(check, "p cnf 1 2 0 0", "3 0 1 0", "1", "3 0 2 0", "1", "3 0 1 2 0", "-1",
                "3 1 0 2 0", "0", "3 1 0 2 -1 0", "-1");
    }

    private static void namedOnce(Check check) {
        check.about("now each known clause that has the opposite of its pivot must be named once "
                + "by its number turned below 0, and nothing else may be");
        judged(check, ONE + "6 3 0 -5 1 3 0", "0", ONE + "6 3 0 0", "-2",
                ONE + "6 3 0 -5 1 3 -5 1 3 0", "-2",
                // others that are known, not yet known, or never
                ONE + "6 3 0 -4 4 0", "-2", ONE + "6 3 0 -5 1 3 -1 0", "-2", ONE + "6 3 0 -1 -5 1 3 0", "-2",
                ONE + "6 3 0 -5 1 3 -6 0", "-2", ONE + "6 3 0 -5 1 3 -9999 0", "-2",
                "5 2 0 1 0", "-1", "5 2 0 0", "-1", "5 3 0 -1 0", "-1", "5 3 0 -5 0", "-1",
                // both of two, in whatever order
                TWO + "7 3 0 -5 1 3 -6 1 2 0", "0", TWO + "7 3 0 -6 1 2 -5 1 3 0", "0",
                TWO + "7 3 0 -5 1 3 0", "-3", TWO + "7 3 0 -6 1 2 0", "-3",
                TWO + "7 3 0 -5 1 3 -5 1 3 0", "-3", TWO + "7 3 0 -5 1 3 -6 1 2 -5 1 3 0", "-3",
                // the pivot is the first literal
                ONE + "6 2 3 0 -3 -4 -5 0", "-2", ONE + "6 -1 3 0 -1 2 0", "-2",
                ONE + "6 -1 3 0 2 -1 0", "-2", ONE + "6 3 -1 0 -5 0", "0",
                // none has the opposite
                "5 3 0 0", "0", "5 3 1 0 0", "0", "5 3 1 0 1 0", "0", "5 -3 0 0", "0");
    }

    private static void trueLiteral(Check check) {
        check.about("if some other literal of the named clause is true, no number above 0 follows");
        judged(check, ONE + "6 3 -1 0 -5 0", "0", ONE + "6 3 -1 0 -5 4 0", "-2",
                ONE + "6 3 2 0 1 -5 0", "0", ONE + "6 3 2 0 1 -5 2 0", "-2",
                ONE + "6 3 -1 0 -5 9 0", "-2", TWO + "7 3 -1 -2 0 -5 -6 0", "0",
                TWO + "7 3 -1 -2 0 -5 2 -6 0", "-3");
    }

    private static void behindAName(Check check) {
        check.about("else the opposites of its other literals become true");
        judged(check, "5 -3 1 2 0 0 6 3 0 -5 1 0", "0", "5 -3 1 2 0 0 6 3 0 -5 2 0", "-2",
                "5 -3 1 2 0 0 6 3 0 -5 0", "-2", "5 -3 0 0 6 3 0 -5 0", "-2",
                "5 -3 0 0 6 3 0 -5 1 0", "-2", "5 -3 0 0 6 3 0 -5 5 0", "-2");
        check.about("above 0 that follow are those of known clauses that are ready each in its "
                + "turn, a conflict being at the last of them and nowhere before");
        judged(check, ONE + "6 3 0 -5 1 3 0", "0", ONE + "6 3 0 -5 3 1 0", "0",
                ONE + "6 3 0 -5 0", "-2", ONE + "6 3 0 -5 1 0", "-2", ONE + "6 3 0 -5 3 0", "-2",
                ONE + "6 3 0 -5 1 3 2 0", "-2", ONE + "6 3 0 -5 1 3 3 0", "-2",
                ONE + "6 3 0 -5 1 9 0", "-2", ONE + "6 3 0 -5 2 3 0", "-2",
                ONE + "6 3 0 -5 1 6 0", "-2", ONE + "6 3 2 0 -5 1 2 0", "-2",
                ONE + "6 3 2 0 -5 1 0", "0");
    }

    private static void trueAgain(Check check) {
        check.about("Behind that, the literals that were true before the name are so again, and no "
                + "others.");
        judged(check, TWO + "7 3 0 -5 1 3 -6 2 1 0", "0", TWO + "7 3 0 -5 1 3 -6 2 0", "-3",
                TWO + "7 3 0 -5 1 3 -6 0", "-3", TWO + "7 3 0 -6 1 2 -5 0", "-3",
                // what the first numbers made true stays so for each name
                TWO + "7 3 -2 0 4 -5 3 -6 0", "0", TWO + "7 3 -2 0 -5 3 -6 0", "0",
                TWO + "7 3 -1 0 2 -5 -6 0", "0", TWO + "7 3 -1 0 2 4 0", "0");
    }

    private static void knownFromThenOn(Check check) {
        check.about("The clause of a good line is known by its number from then on.");
        String three = TWO + "7 3 0 -5 1 3 -6 1 2 0 8 1 0 7 5 0 ";
        judged(check, three + "9 0 8 2 4 0", "5", three + "9 0 8 3 4 0", "-5",
                three + "9 0 8 4 3 0", "-5", "5 2 0 1 2 0 6 0 5 3 4 0", "2",
                "5 2 0 1 2 0 6 0 6 3 4 0", "-2", "70 2 0 1 2 0 71 0 70 3 4 0", "2",
                "70 2 0 1 2 0 71 0 5 3 4 0", "-2");
        // Many more than a formula and a stream can have.
        StringBuilder row = new StringBuilder();
        for (int number = 1; number <= 80; number++) {
            row.append(number).append(" 1 0 0 ");
        }
        Reading.verdicts(check, "p cnf 1 0", row + "81 1 0 80 0", "0", row + "81 1 0 1 0", "0",
                row + "81 1 0 64 0", "0", row + "81 1 0 81 0", "-81", row + "81 1 0 82 0", "-81");
    }

    /** Tokens that were altered so that they are no lines. */
    private static void noLines(Check check) {
        check.about("A line that the tokens do not end, or that is otherwise no line as said under "
                + "RECORD, is not good.");
        String record = "5 2 0 1 2 0 5 d 1 2 0 6 0 5 3 4 0";
        int drop = StreamRefuter.DROP;
        int[][] changes = {{0, drop, -1}, {1, drop, -2}, {2, drop, -1}, {3, drop, -1}, {4, drop, -1},
            {5, drop, -1}, {5, 1, -1}, {2, 3, -1}, {6, drop, -2}, {7, 1, -2}, {7, 0, -2},
            {8, drop, -2}, {9, 0, -3}, {10, drop, -2}, {10, 9, -2}, {11, drop, -3}, {12, drop, 0},
            {13, drop, -3}, {15, drop, -3}, {16, drop, -3}, {16, 3, -3}, {16, -3, -3}, {1, 0, -1},
            {11, 9999, 3}};
        for (int[] change : changes) {
            StreamRefuter x = Check.judging(SQUARE, record);
            check.same("alter", x.alter(change[0], change[1]), true);
            check.same("judge() with token " + change[0] + " altered to " + change[1], x.judge(),
                    change[2]);
        }
        // A row of tokens may end in the middle of its first line, of whichever kind.
        StreamRefuter y = Check.judging(SQUARE, "5 3 0 0");
        y.alter(3, 1);
        check.same("judge() of a line without an end", y.judge(), -1);
        y.alter(2, 1);
        check.same("judge() of a line without its first 0", y.judge(), -1);
        y.alter(1, drop);
        check.same("judge() of a dropping line without an end", y.judge(), -1);
        y.alter(3, 0);
        y.alter(2, 3);
        check.same("judge() of a dropping line", y.judge(), 0);
        StreamRefuter z = Check.judging(SQUARE, "4 d 0 4 d 0");
        z.alter(2, 1);
        check.same("judge() with a d in a dropping line", z.judge(), -1);
    }

    private static void emptyClauseLine(Check check) {
        check.about("the number of the first line (from 1, dropping ones too) of an empty clause, "
                + "if it and all before it are good");
        String record = "5 2 0 1 2 0 5 d 1 2 0 6 0 5 3 4 0";
        judged(check, record, "3", "4 d 0 " + record, "4", "5 2 0 1 2 0 6 0 5 3 4 0", "2",
                record + " 7 0 5 3 4 0", "3", record + " 7 0 0", "3", record + " 1 0 0", "3");
        Reading.verdicts(check, "p cnf 1 1 0", "2 0 1 0", "1", "1 d 0 2 0 1 0", "2");
        // What is behind it need not be a line at all.
        StreamRefuter x = Check.judging(SQUARE, record + " 7 d 0 8 0 0");
        for (int i = 17; i < 23; i++) {
            check.same("alter(" + i + ")", x.alter(i, StreamRefuter.DROP), true);
            check.same("judge()", x.judge(), 3);
        }
    }

    private static void firstThatIsNotGood(Check check) {
        check.about("-k if line k is the first that is not good, and no such line stands before it");
        judged(check, "1 0 0", "-1", "4 d 9 0 5 0 0", "-1", "4 d 0 5 0 0 1 0 0", "-2",
                "5 3 0 0 6 3 0 5 0 7 0 5 0", "-3", "4 d 0 ".repeat(99) + "4 d 9 0", "-100",
                "5 2 0 1 2 0 4 d 9 0 6 0 5 3 4 0", "-2", "5 2 0 2 0 6 0 5 3 4 0", "-1");
    }

    private static void allGood(Check check) {
        check.about("0 if all are good and none is of an empty clause.");
        judged(check, "", "0", "4 d 0", "0", "5 2 0 1 2 0", "0", "5 2 0 1 2 0 5 d 5 0", "0",
                "4 d 0 ".repeat(100).trim(), "0");
        check.same("judge() with a formula alone", Check.with(SQUARE).judge(), 0);
        check.same("judge() of the formula with an empty clause", Check.with("p cnf 1 1 0").judge(),
                0);
    }

    private static void byTheFormula(Check check) {
        check.about("Judges the record by the formula");
        // What the stream adds or deletes is another matter.
        StreamRefuter x = Check.with(SQUARE, "2 0 d 1 2 0 d 1 -2 0");
        Reading.record(x, "6 0 5 3 4 0");
        check.same("judge() with a clause of the stream", x.judge(), -1);
        Reading.record(x, "5 -2 0 3 4 0");
        check.same("judge() with what the stream deleted", x.judge(), 0);
        StreamRefuter y = Check.with(SQUARE, "2 0");
        y.refute();
        check.same("judge()", y.judge(), 3);
        Reading.stream(y, "");
        check.same("judge() with another stream", y.judge(), 3);
        String before = Reading.state(y);
        y.judge();
        check.same("judge() changes nothing", Reading.state(y), before);
    }

    private static void withoutFormula(Check check) {
        check.about("IllegalStateException when there is no formula.");
        StreamRefuter x = new StreamRefuter();
        check.refuses("judge() of a new object", "IllegalStateException", x::judge);
        Reading.record(x, "6 0 5 3 4 0");
        check.refuses("judge() with a record alone", "IllegalStateException", x::judge);
        check.same("tokens stay", x.tokens(), 6);
        Reading.formula(x, "p cnf 1 1 x");
        check.refuses("judge() behind a formula with a fault", "IllegalStateException", x::judge);
        Reading.formula(x, "p cnf 1 0");
        check.same("judge() with a formula", x.judge(), 0);
    }
}
