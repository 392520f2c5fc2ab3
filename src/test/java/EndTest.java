/** Promise 10, and what PROPAGATION and THE END say. */
public final class EndTest {
    private static final String SQUARE = "p cnf 2 4 1 2 0 -1 2 0 1 -2 0 -1 -2 0";

    public static void main(String[] args) {
        Check check = new Check("EndTest");
        ready(check);
        leastNumber(check);
        none(check);
        longChain(check);
        withoutStream(check);
        check.finish();
    }

    private static void ready(Check check) {
        check.about("A clause is READY when none of its literals is true and at most one of them "
                + "is not false.");
        Reading.ends(check, "p cnf 3 4 1 0 -1 2 0 -2 3 0 -3 -1 0", "", "0");
        Reading.ends(check, "p cnf 3 4 1 0 -1 2 0 -2 3 0 -3 1 0", "", "-1");
        Reading.ends(check, "p cnf 3 4 1 2 0 -1 2 0 -2 3 0 -2 -3 0", "", "-1");
        // Two literals that are not false are one too many, and one that is true is, too.
        Reading.ends(check, "p cnf 3 2 1 0 -1 2 3 0", "-2 -3 0", "-1", "-2 0 -3 0", "2");
        Reading.ends(check, "p cnf 3 2 1 0 1 2 0", "-2 0", "-1");
        Reading.ends(check, "p cnf 3 2 -1 0 1 2 0", "-2 0", "1");
    }

    private static void leastNumber(Check check) {
        check.about("THE END is the least number of steps, 0 perhaps, after which propagation by "
                + "all alive clauses, with no literals true at first, comes to a conflict.");
        Reading.ends(check, "p cnf 1 2 1 0 -1 0", "", "0", "0 1 0", "0", "d 1 0", "0");
        Reading.ends(check, "p cnf 1 1 0", "", "0");
        Reading.ends(check, SQUARE, "2 0", "1", "1 2 0 2 0 1 0", "2", "d 1 0 2 0 d 2 0", "2");
        // whatever the steps are worth, and whatever comes behind them
        Reading.ends(check, "p cnf 1 0", "1 0 -1 0 0", "2", "0 d 0", "1",
                "d 1 0 ".repeat(78) + "1 0 -1 0", "80");
        Reading.ends(check, "p cnf 1 1 1 0", "-1 0 d 1 0", "1",
                "d -1 0 ".repeat(79) + "-1 0", "80");
    }

    private static void none(Check check) {
        check.about("There may be none.");
        Reading.ends(check, "p cnf 1 0", "", "-1", "1 0 d 1 0 -1 0 d -1 0 ".repeat(20), "-1");
        Reading.ends(check, SQUARE, "", "-1", "1 2 0", "-1");
        Reading.ends(check, "p cnf 2 0", "1 0 -2 0 1 2 0", "-1");
        Reading.ends(check, "p cnf 1 1 1 0", "d 1 0 -1 0", "-1");
        check.about("The END; NONE if there is none.");
        check.same("end()", Check.with(SQUARE, "").end(), StreamRefuter.NONE);
        check.same("end() that is 0", Check.with("p cnf 1 1 0", "").end(), 0);
    }

    /** All sixteen variables become true, the conflict coming behind them. */
    private static void longChain(Check check) {
        check.about("As long as there are ready clauses");
        StringBuilder row = new StringBuilder("p cnf 16 17 -16 -1 0 ");
        for (int v = 15; v >= 1; v--) {
            row.append(-v).append(' ').append(v + 1).append(" 0 ");
        }
        StreamRefuter x = Check.with(row + "1 2 0", "d 1 2 0 1 0");
        check.same("end() of a chain", x.end(), 2);
        // Sixteen reasons, and the conflict with a seventeenth clause.
        StringBuilder units = new StringBuilder("p cnf 16 17");
        for (int v = 1; v <= 16; v++) {
            units.append(" ").append(v).append(" 0");
        }
        StreamRefuter y = Check.with(units + " -11 -12 -13 -14 -15 -16 0", "");
        check.same("end() with all variables true", y.end(), 0);
        check.same("refute()", y.refute(), 1);
        check.same("the record", Check.record(y),
                "17 d 1 2 3 4 5 6 7 8 9 10 0 18 0 11 12 13 14 15 16 17 0");
    }

    private static void withoutStream(Check check) {
        check.about("IllegalStateException when there is no stream.");
        check.refuses("end() of a new object", "IllegalStateException",
                () -> new StreamRefuter().end());
        StreamRefuter x = Check.with("p cnf 1 1 0");
        check.refuses("end() with a formula alone", "IllegalStateException", x::end);
        Reading.stream(x, "x");
        check.refuses("end() behind a stream with a fault", "IllegalStateException", x::end);
        Reading.stream(x, "");
        check.same("end() with an empty stream", x.end(), 0);
        Reading.formula(x, "p cnf 1 1 0");
        check.refuses("end() behind a new formula", "IllegalStateException", x::end);
    }
}
