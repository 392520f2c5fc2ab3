/** Promise 11, and what IMPLIED, SPARED and RIGHT say for it. */
public final class ForwardTest {
    private static final String SQUARE = "p cnf 4 4 1 2 0 -1 2 0 1 -2 0 -1 -2 0";
    private static final String CUBE = "p cnf 5 9 1 2 4 0 1 -2 4 0 -1 2 4 0 -1 -2 4 0 1 2 -4 0 "
            + "1 -2 -4 0 -1 2 -4 0 -1 -2 -4 0 ";

    public static void main(String[] args) {
        Check check = new Check("ForwardTest");
        right(check);
        pivot(check);
        noneMarked(check);
        candidates(check);
        trueAgain(check);
        beforeTheEnd(check);
        ofAll(check);
        none(check);
        withoutStream(check);
        check.finish();
    }

    private static void forwards(Check check, String... triples) {
        for (int i = 0; i < triples.length; i += 3) {
            StreamRefuter x = Check.with(triples[i], triples[i + 1]);
            String what = "forward() of " + triples[i] + " with " + triples[i + 1];
            check.same(what, String.valueOf(x.forward()), triples[i + 2]);
            check.same(what + ": no mark", Check.marks(x), "");
            check.same(what + ": no token", x.tokens(), 0);
        }
    }

    private static void right(Check check) {
        check.about("An addition is RIGHT if its clause is implied by those that are alive before "
                + "it, or spared, all alive clauses that have the opposite of its pivot being "
                + "candidates.");
        forwards(check, SQUARE, "2 0", "0", SQUARE, "3 0", "0", "p cnf 4 1 1 2 0", "-3 1 0 3 4 0", "2",
                // no clause has the opposite of the pivot
                "p cnf 3 0", "1 0 2 -1 0", "0", "p cnf 3 1 1 2 0", "3 -1 0", "0",
                // a candidate that fails
                "p cnf 3 1 1 2 0", "-1 3 0", "1", "p cnf 3 1 1 0", "-1 0", "1",
                // a clause that was deleted is no candidate, and implies nothing
                "p cnf 3 1 1 2 0", "d 1 2 0 -1 3 0", "0", SQUARE, "d 1 2 0 2 0", "2",
                SQUARE, "d 1 2 0 d 2 1 0 3 0 2 0", "4");
    }

    private static void pivot(Check check) {
        check.about("The PIVOT of a clause is its first literal.");
        forwards(check, "p cnf 3 1 1 2 0", "3 -1 0", "0", "p cnf 3 1 1 2 0", "-1 3 0", "1",
                "p cnf 3 1 1 2 0", "3 -1 -2 0", "0", "p cnf 3 1 2 1 0", "-1 3 0", "1",
                "p cnf 3 1 1 2 0", "3 0 3 -2 0 -1 3 0 -2 -3 0", "4");
    }

    private static void noneMarked(Check check) {
        check.about("(No clause is marked here, or for the end.)");
        // Clause 2 is not marked by the refuting, and yet it is a candidate here.
        StreamRefuter x = Check.with("p cnf 6 5 -3 4 0 5 6 0 4 3 0 -4 -3 0 -4 3 0", "6 4 0 -6 0");
        check.same("forward()", x.forward(), 2);
        check.same("end()", x.end(), 2);
        check.same("refute()", x.refute(), 3);
        check.same("marked(2)", x.marked(2), false);
        check.same("forward() behind it", x.forward(), 2);
        check.same("end() behind it", x.end(), 2);
    }

    private static void candidates(Check check) {
        check.about("If some of the candidate's other literals is true");
        forwards(check, "p cnf 3 1 1 2 0", "-1 -2 0", "0",
                "p cnf 3 2 1 2 0 1 3 0", "-1 -2 0", "1",
                "p cnf 3 3 1 2 0 1 3 0 -2 3 0", "-1 -2 0", "0");
        check.about("if it comes to a conflict, that needs what it needs; if not, the candidate "
                + "FAILS");
        forwards(check, CUBE + "3 4 0", "-3 1 0", "0", CUBE + "3 5 0", "-3 1 0", "1",
                CUBE + "3 5 0", "1 2 3 0 -3 1 0", "2");
    }

    private static void trueAgain(Check check) {
        check.about("literals that were true before it are so again, and no others.");
        forwards(check, "p cnf 4 4 1 2 0 1 3 0 2 -4 0 3 -4 0", "-1 4 0", "1",
                "p cnf 4 5 -1 2 0 -1 3 0 2 3 0 2 -3 0 3 -2 0", "1 4 0", "0",
                "p cnf 4 4 -1 2 0 -1 3 0 2 4 0 2 -4 0", "1 0", "1",
                "p cnf 4 5 -1 2 0 -1 -2 0 -1 3 0 2 4 0 2 -4 0", "1 0", "1");
    }

    private static void beforeTheEnd(Check check) {
        check.about("The number of the first step (from 1) before the end");
        // The step that brings the end is before it, all behind that are not.
        forwards(check, SQUARE, "2 0 -1 0", "0", SQUARE, "2 0 0 d 0", "0",
                "p cnf 3 1 1 0", "-1 0", "1", "p cnf 3 1 1 0", "2 0 -1 0 0", "2",
                "p cnf 3 2 1 0 -1 0", "0", "0", "p cnf 3 2 1 0 -1 0", "-1 0 0", "0",
                // a deletion behind the end does not bring it back
                SQUARE, "2 0 d 2 0 0", "0", SQUARE, "2 0 d 2 0 d 1 2 0 2 0", "0",
                "p cnf 3 2 1 0 -1 0", "d 1 0 0", "0", "p cnf 1 1 0", "d 0 1 0 -1 0", "0",
                // the first of two; deletions count as steps
                "p cnf 3 1 1 0", "d 2 0 -1 2 0 -1 -2 0", "2",
                "p cnf 3 2 1 0 2 0", "d 3 0 3 0 d 3 0 -1 3 0 -2 -3 0", "4",
                "p cnf 1 1 1 0", "d -1 0 ".repeat(79) + "-1 0", "80");
    }

    private static void ofAll(Check check) {
        check.about("(of all, if there is no end)");
        forwards(check, "p cnf 3 2 1 2 0 1 -2 0", "1 0 3 0 -2 3 0 -1 2 0 2 3 0", "4",
                "p cnf 3 2 1 2 0 1 -2 0", "1 0 3 0 d 3 0 2 0", "0",
                "p cnf 3 1 1 0", "2 0 ".repeat(60) + "d 1 0 -1 0 1 3 0", "63",
                "p cnf 2 1 1 2 0", "d 1 0 ".repeat(79) + "-1 0", "80");
    }

    private static void none(Check check) {
        check.about("0 if there is none.");
        forwards(check, SQUARE, "", "0", SQUARE, "d 1 2 0", "0", "p cnf 1 0", "", "0",
                "p cnf 1 1 0", "", "0", "p cnf 1 0", "d 0 ".repeat(80), "0",
                SQUARE, "2 0", "0");
    }

    private static void withoutStream(Check check) {
        check.about("IllegalStateException when there is no stream.");
        check.refuses("forward() of a new object", "IllegalStateException",
                () -> new StreamRefuter().forward());
        StreamRefuter x = Check.with(SQUARE);
        check.refuses("forward() with a formula alone", "IllegalStateException", x::forward);
        Reading.stream(x, "x");
        check.refuses("forward() behind a fault", "IllegalStateException", x::forward);
        Reading.stream(x, "");
        check.same("forward() with an empty stream", x.forward(), 0);
        Reading.formula(x, SQUARE);
        check.refuses("forward() behind a new formula", "IllegalStateException", x::forward);
    }
}
