/** What the document says of the empty clause: in formulas, streams, refutings and records. */
public final class EmptyClauseTest {
    private static final String SQUARE = "p cnf 2 4 1 2 0 -1 2 0 1 -2 0 -1 -2 0";

    public static void main(String[] args) {
        Check check = new Check("EmptyClauseTest");
        conflictAtOnce(check);
        deleted(check);
        neverSpared(check);
        itsNumber(check);
        withoutAdditions(check);
        itsLine(check);
        judgedWithoutConflict(check);
        check.finish();
    }

    private static void conflictAtOnce(Check check) {
        check.about("if it has no such literal, this is the CONFLICT with that clause");
        Reading.ends(check, "p cnf 1 1 0", "", "0", "1 0", "0", "d 1 0", "0");
        Reading.ends(check, "p cnf 2 3 1 2 0 0 1 0", "", "0", "1 0", "0");
        Reading.ends(check, "p cnf 1 0", "0", "1", "1 0 0", "2", "1 0 d 1 0 0 0", "3", "", "-1");
        // It needs nothing but the clause itself, whatever was taken before it.
        StreamRefuter x = Check.with("p cnf 2 4 1 0 -1 2 0 0 0", "");
        check.same("refute()", x.refute(), 1);
        check.same("the record", Check.record(x), "4 d 1 2 4 0 5 0 3 0");
        check.same("the marks", Check.marks(x), "3");
    }

    private static void deleted(Check check) {
        check.about("if there is none, it does nothing.");
        Reading.ends(check, "p cnf 1 0", "d 0 0", "2", "d 0 0 d 0", "2", "0 d 0", "1");
        Reading.ends(check, "p cnf 1 1 1 0", "d 0 -1 0", "2", "-1 0 d 0", "1");
        Reading.ends(check, "p cnf 1 1 0", "d 0", "0");
    }

    private static void neverSpared(Check check) {
        check.about("A clause that is not implied is SPARED, if it is not empty");
        String[][] runs = {
            // formula, stream, forward(), refute()
            {"p cnf 1 0", "0", "1", "-1"},
            {"p cnf 1 0", "1 0 0", "2", "-2"},
            {SQUARE, "0", "1", "-1"},
            {SQUARE, "d 1 2 0 0 2 0", "2", "-2"},
            {"p cnf 2 2 1 2 0 1 -2 0", "-2 0 1 0 0", "3", "-3"},
            // behind the end it is not looked at
            {SQUARE, "2 0 0", "0", "2"},
            {"p cnf 1 1 0", "0", "0", "1"},
        };
        for (String[] run : runs) {
            StreamRefuter x = Check.with(run[0], run[1]);
            check.same("forward() of " + run[0] + " with " + run[1], String.valueOf(x.forward()),
                    run[2]);
            check.same("refute() of " + run[0] + " with " + run[1], String.valueOf(x.refute()),
                    run[3]);
        }
    }

    private static void itsNumber(Check check) {
        check.about("whose number is 1 more than that of the last clause that was alive by then");
        String[][] runs = {
            {SQUARE, "2 0", "6"},
            {SQUARE, "1 2 0 d 1 2 0 2 0", "7"},
            // Those that are not needed count, and those that are alive no more.
            {SQUARE, "1 2 0 1 2 0 d 1 2 0 d 1 2 0 2 0", "8"},
            // Those behind the end do not.
            {SQUARE, "2 0 1 0 1 0 d 2 0", "6"},
            {SQUARE, "1 2 0 ".repeat(58) + "2 0", "64"},
            {SQUARE, "2 0" + " 1 2 0".repeat(58), "6"},
        };
        for (String[] run : runs) {
            StreamRefuter x = Check.with(run[0], run[1]);
            String what = " of " + run[0] + " with " + run[1];
            check.same("refute()" + what, x.refute() > 1, true);
            String record = Check.record(x);
            check.same("the last line" + what, record.matches(".* 0 " + run[2] + " 0 [1-9][0-9 ]* 0"),
                    true);
            check.same("judge()" + what, x.judge() > 0, true);
        }
    }

    private static void withoutAdditions(Check check) {
        check.about("(or of the formula's last one, if the stream added none before the end)");
        String formula = "p cnf 2 4 1 0 -1 0 2 0 2 0";
        for (String stream : new String[] {"", "1 0", "0 0 0", "d 1 0", "d 2 0 1 2 0 d 2 0"}) {
            StreamRefuter x = Check.with(formula, stream);
            check.same("refute() with " + stream, x.refute(), 1);
            check.same("the record with " + stream, Check.record(x), "4 d 3 4 0 5 0 1 2 0");
            check.same("judge()", x.judge(), 2);
        }
    }

    private static void itsLine(Check check) {
        check.about("and one for the empty clause: its number, its literals, 0, its hints");
        // Clause 6 is behind the end and has the empty clause's number, but not its line.
        StreamRefuter x = Check.with(SQUARE, "1 0 2 0 -2 0");
        check.same("refute()", x.refute(), 2);
        check.same("the record", Check.record(x), "5 1 0 1 3 0 5 d 1 3 0 6 0 5 2 4 0");
        check.same("marked(6)", x.marked(6), false);
        check.same("way(2)", x.way(2), 0);
        // The clause of a conflict may be the empty one that the formula has.
        StreamRefuter y = Check.with("p cnf 1 1 0", "");
        check.same("refute()", y.refute(), 1);
        check.same("the record", Check.record(y), "2 0 1 0");
        check.same("judge()", y.judge(), 1);
    }

    private static void judgedWithoutConflict(Check check) {
        check.about("If there was no conflict, the clause must not be empty");
        Reading.verdicts(check, SQUARE, "5 0 0", "-1", "5 0 -1 0", "-1", "9 0 0", "-1",
                "5 1 0 1 3 0 6 0 5 0", "-2", "5 1 0 1 3 0 6 0 5 2 0", "-2",
                "5 1 0 1 3 0 6 0 5 2 4 0", "2");
        Reading.verdicts(check, "p cnf 1 0", "1 0 0", "-1", "1 1 0 0", "0");
        Reading.verdicts(check, "p cnf 1 1 0", "2 0 1 0", "1", "2 0 0", "-1", "2 1 0 1 0", "0",
                "2 1 0 0", "0", "2 d 1 0 3 0 1 0", "-2", "2 d 1 0 3 0 0", "-2");
    }
}
