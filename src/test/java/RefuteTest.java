/** Promise 12, and what REFUTING and THE RECORD say. FullTest has the records that are too long. */
public final class RefuteTest {
    private static final String SQUARE = "p cnf 4 4 1 2 0 -1 2 0 1 -2 0 -1 -2 0";

    public static void main(String[] args) {
        Check check = new Check("RefuteTest");
        noneMarkedAtFirst(check);
        conflictAtTheEnd(check);
        stepsBeforeTheEnd(check);
        goneBack(check);
        hintsInOrder(check);
        markedCandidates(check);
        markedBeforeTheNext(check);
        sparedLines(check);
        unmarkedOfTheFormula(check);
        droppingLines(check);
        lastNumber(check);
        takesThePlace(check);
        noEnd(check);
        failing(check);
        withoutStream(check);
        check.finish();
    }

    /** Asks for the record of a formula and a stream, and whether judging finds it good. */
    private static void writes(Check check, String formula, String stream, String record) {
        StreamRefuter x = Check.with(formula, stream);
        String what = " of " + formula + " with " + stream;
        int lines = x.refute();
        check.same("the record" + what, Check.record(x), record);
        int dropping = record.length() - record.replace("d", "").length();
        check.same("judge()" + what, x.judge(), lines + dropping);
    }

    private static void noneMarkedAtFirst(Check check) {
        check.about("At first no clause is marked.");
        String[][] runs = {{SQUARE, "2 0"}, {"p cnf 3 5 3 2 0 1 2 0 3 -1 0 -3 -1 0 1 -2 0", "-2 0"},
            {"p cnf 5 6 4 -3 0 -4 -1 0 1 -4 0 5 -1 0 5 3 0 3 4 0", "-5 0"}};
        for (String[] run : runs) {
            StreamRefuter x = Check.with(run[0], run[1]);
            int lines = x.refute();
            String before = Reading.state(x);
            check.same("refute() again", x.refute(), lines);
            check.same("all as before", Reading.state(x), before);
        }
    }

    private static void conflictAtTheEnd(Check check) {
        check.about("With what is alive at the end, what the conflict there needs is marked");
        writes(check, "p cnf 2 3 2 0 1 0 -1 0", "2 0 d 1 0", "3 d 1 0 4 0 2 3 0");
        // Clause 1 is alive no more by the end, and clause 6 not yet.
        writes(check, SQUARE, "d 3 0 1 2 0 d 1 2 0 2 0 1 0", "5 1 2 0 1 0 5 d 1 0 6 2 0 2 5 0 "
                + "6 d 2 5 0 7 0 6 3 4 0");
    }

    private static void stepsBeforeTheEnd(Check check) {
        check.about("Then the steps before the end are gone back, from the last to the first");
        // What is behind the end is not looked at, be it right or wrong.
        String due = "5 2 0 1 2 0 5 d 1 2 0 6 0 5 3 4 0";
        for (String behind : new String[] {"", " 0", " -1 0 3 0", " d 1 2 0 0 2 1 0"}) {
            writes(check, SQUARE, "2 0" + behind, due);
        }
        writes(check, "p cnf 3 2 1 0 -1 0", "0 -1 0 d 1 0", "3 0 1 2 0");
        check.about("and if that clause is marked");
        // The first step is wrong, as forward() finds, but its clause is not marked.
        String formula = "p cnf 6 8 -1 3 4 0 -1 3 -4 0 -1 -3 4 0 -1 -3 -4 0 1 5 6 0 1 5 -6 0 "
                + "1 -5 6 0 1 -5 -6 0";
        writes(check, formula, "-1 2 0 -1 3 0 -1 0 1 5 0", "10 -1 3 0 1 2 0 10 d 1 2 0 "
                + "11 -1 0 10 3 4 0 11 d 3 4 10 0 12 1 5 0 5 6 0 12 d 5 6 0 13 0 11 12 7 8 0");
        check.same("forward()", Check.with(formula, "-1 2 0 -1 3 0 -1 0 1 5 0").forward(), 1);
    }

    private static void goneBack(Check check) {
        check.about("an addition by making its clause alive no more");
        // Clause 5 does not imply itself, nor is it implied by those that are added later.
        writes(check, SQUARE, "2 0", "5 2 0 1 2 0 5 d 1 2 0 6 0 5 3 4 0");
        StreamRefuter x = Check.with("p cnf 2 4 1 2 0 1 -2 0 -1 2 0 2 0", "d 2 0 -1 0");
        check.same("refute()", x.refute(), -2);
    }

    private static void hintsInOrder(Check check) {
        check.about("the lowest of those that are marked is taken, or, if none of them is, the "
                + "lowest");
        writes(check, "p cnf 3 5 3 2 0 1 2 0 3 -1 0 -3 -1 0 1 -2 0", "-2 0",
                "6 -2 0 5 4 3 0 6 d 3 5 0 7 0 6 1 2 4 0");
        check.about("in the order in which they were taken (that of the conflict last)");
        // 3 and 2 are taken before 1, and then 4, which is not needed; the conflict is with 5.
        writes(check, "p cnf 4 5 -2 -1 0 -3 2 0 3 0 4 0 1 0", "", "5 d 4 0 6 0 3 2 1 5 0");
        check.about("A true literal NEEDS its reason, if it has one, and what the opposites of the "
                + "other literals of that clause need.");
        // 5 needs 4, which needs 3 and 2; 1 is taken, too, and 6 makes no literal true.
        writes(check, "p cnf 6 7 1 0 2 0 3 0 -2 -3 4 0 -4 5 0 4 6 0 -5 0", "",
                "7 d 1 6 0 8 0 2 3 4 5 7 0");
        check.about("A conflict needs its clause, and what the opposites of the literals of it "
                + "need.");
        writes(check, "p cnf 4 5 1 0 2 0 3 0 4 0 -2 -4 0", "", "5 d 1 3 0 6 0 2 4 5 0");
    }

    private static void markedCandidates(Check check) {
        check.about("its candidates are the clauses that are alive and marked and have the opposite "
                + "of its pivot");
        // Clause 2 has 6, too, and would fail, as forward() finds; but it is not marked.
        String formula = "p cnf 6 5 -3 4 0 5 6 0 4 3 0 -4 -3 0 -4 3 0";
        writes(check, formula, "6 4 0 -6 0",
                "5 d 2 0 6 6 4 0 1 3 0 7 -6 0 -6 1 3 0 7 d 1 3 0 8 0 7 6 4 5 0");
        check.same("forward()", Check.with(formula, "6 4 0 -6 0").forward(), 2);
        // No candidate at all.
        writes(check, "p cnf 5 4 1 -3 0 -1 -2 0 1 3 0 -1 2 0", "-5 0 5 1 0",
                "5 -5 0 0 6 5 1 0 1 3 0 6 d 1 3 0 7 0 5 6 2 4 0");
    }

    private static void markedBeforeTheNext(Check check) {
        check.about("what is needed for a candidate is marked before the next one is picked");
        // Clause 2 is marked for the candidate 4, so that it is taken before 3 for the candidate 5.
        writes(check, "p cnf 5 6 4 -3 0 -4 -1 0 1 -4 0 5 -1 0 5 3 0 3 4 0", "-5 0",
                "7 -5 0 -4 2 1 6 -5 6 2 3 0 7 d 2 6 0 8 0 7 4 3 1 5 0");
    }

    private static void sparedLines(Check check) {
        check.about("The BASE are all clauses needed for candidates that were taken before them, "
                + "in their order.");
        writes(check, "p cnf 4 6 -2 0 4 1 0 -1 4 0 3 1 0 -4 -1 0 -4 1 2 0", "-3 0",
                "7 -3 0 1 -4 2 6 0 7 d 1 2 6 0 8 0 7 4 3 5 0");
        check.about("The GROUP of a candidate is its number turned below 0, and behind it those of "
                + "the clauses needed for it that were taken for it, in their order (that of a "
                + "conflict last).");
        writes(check, "p cnf 5 6 4 -3 0 -4 -1 0 1 -4 0 5 -1 0 5 3 0 3 4 0", "-5 0",
                "7 -5 0 -4 2 1 6 -5 6 2 3 0 7 d 2 6 0 8 0 7 4 3 1 5 0");
        check.about("(if it is spared: the base, then the groups in the order of the candidates)");
        // The second candidate begins where the first one began.
        writes(check, "p cnf 3 6 3 1 0 3 2 0 2 -1 0 -2 -1 0 1 2 0 -2 1 0", "-3 0",
                "7 -3 0 -1 5 6 -2 5 3 0 7 d 3 5 6 0 8 0 7 1 2 4 0");
        check.about("the first of them that is needs what it needs, and that is all");
        // Of clause 4, 4 -3 -6, the literal -3 is true for the reason 6 and -6 without any.
        writes(check, "p cnf 6 7 -5 2 0 5 -2 -4 0 3 4 0 4 -3 -6 0 -5 -2 0 6 -3 0 2 5 -4 0",
                "6 0 5 0", "8 6 0 6 3 -4 0 8 d 6 0 9 5 0 8 -1 7 3 4 -5 2 3 4 0 9 d 2 3 4 7 8 0 "
                + "10 0 9 1 5 0");
        // Of clause 5, -3 -1 5, both -3 and 5 are true, for the reasons 4 and 6.
        writes(check, "p cnf 5 7 -2 -4 0 2 4 0 2 -4 0 1 -3 0 -3 -1 5 0 3 5 0 -2 4 0",
                "1 0 3 0 -5 4 0", "8 1 0 4 -5 0 8 d 4 0 9 3 0 6 -5 0 9 d 6 0 10 -5 4 0 2 7 0 "
                + "10 d 2 7 0 11 0 8 9 5 10 1 3 0");
    }

    private static void unmarkedOfTheFormula(Check check) {
        check.about("if there are clauses of the formula that are not marked, a dropping line with "
                + "the number M and their numbers");
        writes(check, "p cnf 2 6 2 0 1 0 2 0 -1 0 2 0 2 1 0", "", "6 d 1 3 5 6 0 7 0 2 4 0");
        writes(check, "p cnf 2 2 1 0 0", "", "2 d 1 0 3 0 2 0");
        // None, and so no such line; deleted ones are clauses of the formula all the same.
        writes(check, "p cnf 3 3 1 0 2 -1 0 -2 0", "", "4 0 1 2 3 0");
        writes(check, "p cnf 1 1 0", "0", "2 0 1 0");
        writes(check, "p cnf 3 5 1 2 0 -1 2 0 1 -2 0 -1 -2 0 3 0", "d 3 0 2 0",
                "5 d 5 0 6 2 0 1 2 0 6 d 1 2 0 7 0 6 3 4 0");
    }

    private static void droppingLines(Check check) {
        check.about("and behind each of these but the last, a dropping line with the same number "
                + "and the numbers of all clauses that this line has among its hints (or base, or "
                + "groups) and no later one has, if there are such.");
        // All hints of clause 5 are needed again, so that there is nothing to drop behind it.
        writes(check, "p cnf 5 4 -1 -3 0 1 -2 0 1 2 0 -1 3 0", "2 -4 0 4 0",
                "5 2 -4 0 3 1 4 0 6 4 0 -5 3 1 4 0 6 d 3 0 7 0 6 5 2 1 4 0");
        // Clause 5 has no hints at all.
        writes(check, "p cnf 5 4 1 -3 0 -1 -2 0 1 3 0 -1 2 0", "-5 0 5 1 0",
                "5 -5 0 0 6 5 1 0 1 3 0 6 d 1 3 0 7 0 5 6 2 4 0");
        // What the last line needs alone is not dropped behind it.
        writes(check, "p cnf 1 2 1 0 -1 0", "", "3 0 1 2 0");
        check.about("Numbers in dropping lines rise.");
        writes(check, "p cnf 6 7 -5 2 0 5 -2 -4 0 3 4 0 4 -3 -6 0 -5 -2 0 6 -3 0 2 5 -4 0",
                "6 0 5 0", "8 6 0 6 3 -4 0 8 d 6 0 9 5 0 8 -1 7 3 4 -5 2 3 4 0 9 d 2 3 4 7 8 0 "
                + "10 0 9 1 5 0");
    }

    private static void lastNumber(Check check) {
        check.about("a line for each marked clause of an addition before the end, in their order");
        StreamRefuter x = Check.with(SQUARE, "1 2 0 ".repeat(58) + "2 0");
        check.same("clauses()", x.clauses(), 63);
        check.same("refute()", x.refute(), 2);
        check.same("the record", Check.record(x), "63 2 0 1 2 0 63 d 1 2 0 64 0 63 3 4 0");
        check.same("judge()", x.judge(), 3);
        // The clauses 10 and 12 are not needed, and 14 is behind the end.
        writes(check, "p cnf 5 8 1 2 4 0 1 -2 4 0 -1 2 4 0 -1 -2 4 0 1 2 -4 0 1 -2 -4 0 -1 2 -4 0 "
                + "-1 -2 -4 0", "1 4 0 5 0 1 0 2 5 0 -1 4 0 4 0", "9 1 4 0 1 2 0 9 d 1 2 0 "
                + "11 1 0 9 5 6 0 11 d 5 6 9 0 13 -1 4 0 3 4 0 13 d 3 4 0 14 0 11 13 7 8 0");
    }

    private static void takesThePlace(Check check) {
        check.about("how many lines that are not dropping the record has, which takes the place of "
                + "the one that was");
        StreamRefuter x = Check.with(SQUARE, "2 0");
        Reading.record(x, "7 d 1 0 8 1 0 -2 0 " + "9 0 0 ".repeat(20));
        check.same("refute()", x.refute(), 2);
        check.same("the record", Check.record(x), "5 2 0 1 2 0 5 d 1 2 0 6 0 5 3 4 0");
        check.same("tokens()", x.tokens(), 17);
        check.same("token(17)", x.token(17), 0);
        x.alter(0, 9);
        check.same("refute() again", x.refute(), 2);
        check.same("token(0)", x.token(0), 5);
        Reading.stream(x, "3 0 2 0");
        check.same("refute() by another stream", x.refute(), 2);
        check.same("the record", Check.record(x), "6 2 0 1 2 0 6 d 1 2 0 7 0 6 3 4 0");
        // One line, with a dropping one before it and without.
        check.same("refute()", Check.with("p cnf 1 1 0", "").refute(), 1);
        check.same("refute()", Check.with("p cnf 1 2 0 0", "").refute(), 1);
    }

    /** Refuting by this stream answers this and changes nothing, with a record and without. */
    private static void refused(Check check, String formula, String stream, int due) {
        String what = "refute() of " + formula + " with " + stream;
        StreamRefuter x = Check.with(formula, stream);
        String before = Reading.state(x);
        check.same(what, x.refute(), due);
        check.same(what + ": all as before", Reading.state(x), before);
        Reading.record(x, "7 d 1 0 8 1 0 -2 0");
        x.alter(2, 3);
        before = Reading.state(x);
        check.same(what + " again", x.refute(), due);
        check.same(what + " again: all as before", Reading.state(x), before);
        check.same(what + ": no fault", x.fault(), 0);
    }

    private static void noEnd(Check check) {
        check.about("Without changing anything: 0 when there is no end");
        refused(check, "p cnf 1 0", "", 0);
        refused(check, SQUARE, "", 0);
        refused(check, SQUARE, "3 0 d 1 2 0", 0);
        refused(check, "p cnf 1 1 1 0", "d 1 0 -1 0", 0);
        // A step that is wrong is no failure then.
        refused(check, "p cnf 2 1 1 2 0", "-1 0", 0);
        // The record of another stream stays.
        StreamRefuter x = Check.with(SQUARE, "2 0");
        x.refute();
        String record = Check.record(x);
        Reading.stream(x, "3 0");
        check.same("refute() by a stream without an end", x.refute(), 0);
        check.same("the record of the other", Check.record(x), record);
        check.same("no marks", Check.marks(x), "");
    }

    private static void failing(Check check) {
        check.about("If the clause is neither implied nor spared, refuting FAILS at this step.");
        refused(check, "p cnf 3 3 1 2 0 1 -2 0 3 0", "-1 -3 0", -1);
        refused(check, "p cnf 2 1 1 0", "2 0 -1 0", -2);
        refused(check, SQUARE, "d 1 2 0 2 0", -2);
        check.about("-k when it fails at step k");
        refused(check, "p cnf 1 0", "0", -1);
        refused(check, "p cnf 2 2 1 2 0 1 -2 0", "-2 0 1 0 0", -3);
        refused(check, SQUARE, "3 0 -3 4 0 -4 0 2 0", -3);
        refused(check, "p cnf 3 4 1 2 0 -1 2 0 1 -2 0 -1 -2 0",
                "3 -1 -2 0 -3 1 0 -3 2 0 d 1 -2 0 -3 0 1 0", -6);
        refused(check, "p cnf 1 1 1 0", "d -1 0 ".repeat(79) + "-1 0", -80);
        // Of two wrong steps the last is met first, going backwards; forward() finds the first.
        StreamRefuter x = Check.with("p cnf 3 2 1 0 2 3 0", "-2 0 -1 -3 0");
        check.same("refute()", x.refute(), -2);
        check.same("forward()", x.forward(), 1);
    }

    private static void withoutStream(Check check) {
        check.about("IllegalStateException when there is no stream.");
        check.refuses("refute() of a new object", "IllegalStateException",
                () -> new StreamRefuter().refute());
        StreamRefuter x = Check.with("p cnf 1 1 0");
        check.refuses("refute() with a formula alone", "IllegalStateException", x::refute);
        Reading.stream(x, "x");
        check.refuses("refute() behind a fault", "IllegalStateException", x::refute);
        Reading.stream(x, "");
        check.same("refute() with an empty stream", x.refute(), 1);
        Reading.formula(x, "p cnf 1 1 0");
        check.refuses("refute() behind a new formula", "IllegalStateException", x::refute);
    }
}
