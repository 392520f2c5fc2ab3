/** What TIME says: which clause a deletion finds, and what it does if it finds none. */
public final class DeletionTest {
    // The clauses 1 and 2 have the same literals.
    private static final String TWICE = "p cnf 2 5 1 2 0 2 1 0 -1 2 0 1 -2 0 -1 -2 0";

    public static void main(String[] args) {
        Check check = new Check("DeletionTest");
        aliveAtFirst(check);
        additions(check);
        oneClause(check);
        theLowest(check);
        whateverOrder(check);
        findsNone(check);
        goingBack(check);
        check.finish();
    }

    private static void refutes(Check check, String formula, String stream, String record) {
        StreamRefuter x = Check.with(formula, stream);
        check.same("refute() of " + formula + " with " + stream, x.refute() > 0, true);
        check.same("the record of " + formula + " with " + stream, Check.record(x), record);
    }

    private static void aliveAtFirst(Check check) {
        check.about("Before the first step the clauses of the formula are ALIVE.");
        Reading.ends(check, "p cnf 1 2 1 0 -1 0", "", "0", "d 1 0", "0", "d 1 0 d -1 0 1 0", "0");
        Reading.ends(check, "p cnf 1 1 1 0", "-1 0", "1");
        Reading.ends(check, "p cnf 1 0", "-1 0", "-1");
    }

    private static void additions(Check check) {
        check.about("An addition makes its clause alive.");
        Reading.ends(check, "p cnf 2 1 -2 0", "1 0 2 0", "2", "2 0", "1", "1 0 1 0 2 0", "3", "1 0", "-1");
        // One that is added again is a clause of its own, and alive again.
        Reading.ends(check, "p cnf 2 1 -2 0", "d 2 0 2 0", "2", "1 2 0 d 2 1 0 1 2 0 -1 0", "4",
                "1 2 0 d 2 1 0 -1 0 2 1 0", "4");
    }

    private static void oneClause(Check check) {
        check.about("A deletion makes one clause alive no more");
        Reading.ends(check, "p cnf 1 1 1 0", "d 1 0 -1 0", "-1", "-1 0 d 1 0", "1");
        Reading.ends(check, "p cnf 1 2 1 0 1 0", "d 1 0 -1 0", "2", "d 1 0 d 1 0 -1 0", "-1");
        Reading.ends(check, "p cnf 1 0", "1 0 1 0 1 0 d 1 0 d 1 0 -1 0", "6",
                "1 0 1 0 1 0 d 1 0 d 1 0 d 1 0 -1 0", "-1");
        // Not one of the other clauses: 1 2 would not do without -1, nor -1 without 1 2.
        Reading.ends(check, "p cnf 3 3 1 2 0 -1 0 3 0", "d 3 0 -2 0", "2", "d -1 0 -2 0", "-1",
                "d 1 2 0 -2 0", "-1");
    }

    private static void theLowest(Check check) {
        check.about("the lowest that is alive and has the same literals");
        String rest = "0 6 d 2 3 0 7 0 6 4 5 0";
        refutes(check, TWICE, "d 1 2 0 2 0", "5 d 1 0 6 2 0 2 3 " + rest);
        refutes(check, TWICE, "d 2 1 0 2 0", "5 d 1 0 6 2 0 2 3 " + rest);
        // Clause 6 has them, too: of three the first two are deleted, one after the other.
        refutes(check, TWICE, "1 2 0 d 1 2 0 d 1 2 0 2 0", "5 d 2 0 6 1 2 0 1 0 6 d 1 0 "
                + "7 2 0 3 6 0 7 d 3 6 0 8 0 7 4 5 0");
        refutes(check, TWICE, "1 2 0 d 2 1 0 2 0", "5 d 1 0 7 2 0 2 3 0 7 d 2 3 0 8 0 7 4 5 0");
        // The lowest may be one that was added, when those of the formula are alive no more.
        refutes(check, TWICE, "1 2 0 2 1 0 d 1 2 0 d 1 2 0 d 1 2 0 2 0", "5 d 2 0 7 2 1 0 1 0 "
                + "7 d 1 0 8 2 0 3 7 0 8 d 3 7 0 9 0 8 4 5 0");
    }

    private static void whateverOrder(Check check) {
        check.about("in whatever order");
        int[] six = {1, -2, 3, -4, 5, -6};
        String formula = "p cnf 6 6 1 -2 3 -4 5 -6 0 -1 0 2 0 -3 0 4 0 -5 0";
        for (int turn = 0; turn < 6; turn++) {
            StringBuilder forth = new StringBuilder("d ");
            StringBuilder back = new StringBuilder("d ");
            for (int k = 0; k < 6; k++) {
                forth.append(six[(turn + k) % 6]).append(" ");
                back.append(six[(turn + 6 - k) % 6]).append(" ");
            }
            Reading.ends(check, formula, forth + "0 6 0", "-1", back + "0 6 0", "-1");
        }
        Reading.ends(check, formula, "6 0", "1", "d 1 -2 3 -4 5 6 0 6 0", "2");
    }

    private static void findsNone(Check check) {
        check.about("if there is none, it does nothing.");
        String formula = "p cnf 3 2 1 2 0 -1 0";
        for (String other : new String[] {"", "1 ", "2 ", "3 ", "1 3 ", "1 2 3 ", "-1 -2 ", "1 -2 ",
            "-1 2 ", "-2 -1 ", "1 2 -3 "}) {
            Reading.ends(check, formula, "d " + other + "0 -2 0", "2");
        }
        Reading.ends(check, formula, "d 1 2 0 -2 0", "-1", "d 2 1 0 -2 0", "-1");
        // One that is alive no more is not found again, nor one that is added later.
        Reading.ends(check, "p cnf 1 1 1 0", "d 1 0 d 1 0 1 0 -1 0", "4", "d -1 0 -1 0", "2");
        Reading.ends(check, "p cnf 1 0", "d 1 0 1 0 -1 0", "3", "1 0 d 1 0 d 1 0 1 0 -1 0", "5");
        // It is a step all the same.
        StreamRefuter x = Check.with("p cnf 1 0", "d 1 0 d 0");
        check.same("way(2)", x.way(2), 0);
        check.same("way(3)", x.way(3), StreamRefuter.NONE);
        check.same("clauses()", x.clauses(), 0);
    }

    private static void goingBack(Check check) {
        check.about("a deletion by making alive again what it made alive no more");
        // Clause 8 needs 3, which is deleted behind it. Of 1 and 2 the marked one is taken.
        refutes(check, "p cnf 3 7 1 2 0 1 2 0 -1 2 3 0 -1 2 -3 0 1 -2 0 -1 -2 3 0 -1 -2 -3 0",
                "2 3 0 d 1 2 0 d -1 2 3 0 2 0", "7 d 1 0 8 2 3 0 2 3 0 8 d 3 0 9 2 0 2 4 8 0 "
                + "9 d 2 4 8 0 10 0 9 5 6 7 0");
        // A deletion that did nothing brings nothing back: 1 2 3 stays away until the first one.
        String formula = "p cnf 3 5 1 2 3 0 1 2 -3 0 -1 2 0 1 -2 0 -1 -2 0";
        StreamRefuter x = Check.with(formula, "d 1 2 3 0 1 2 0 d 1 2 3 0 2 0");
        check.same("end()", x.end(), 4);
        check.same("forward()", x.forward(), 2);
        check.same("refute()", x.refute(), -2);
        StreamRefuter y = Check.with(formula, "1 2 0 d 1 2 3 0 d 1 2 3 0 2 0");
        check.same("refute() with 1 2 before it", y.refute(), 3);
        check.same("judge()", y.judge() > 0, true);
    }
}
