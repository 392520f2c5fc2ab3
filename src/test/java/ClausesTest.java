/** Promises 8 and 9: how many clauses there are, and their literals. */
public final class ClausesTest {
    public static void main(String[] args) {
        Check check = new Check("ClausesTest");
        howMany(check);
        withoutStream(check);
        literals(check);
        noSuchLiteral(check);
        check.finish();
    }

    private static void howMany(Check check) {
        check.about("How many clauses there are, the formula's and those that the stream adds.");
        StreamRefuter x = Check.with("p cnf 3 2 1 2 0 -1 0");
        String[] streams = {"", "0", "d 0", "d -1 0 d 1 2 0", "3 0 3 0 d 3 0 1 0", "1 0 ".repeat(61)};
        int[] dues = {2, 3, 2, 2, 5, 63};
        for (int i = 0; i < streams.length; i++) {
            Reading.stream(x, streams[i]);
            check.same("clauses() with the stream " + streams[i], x.clauses(), dues[i]);
        }
        // Those behind the end count, too.
        StreamRefuter y = Check.with("p cnf 1 2 1 0 -1 0", "1 0 0");
        check.same("clauses() with steps behind the end", y.clauses(), 4);
    }

    private static void withoutStream(Check check) {
        check.about("(Without a stream the formula's alone.)");
        StreamRefuter x = new StreamRefuter();
        check.same("clauses() without a formula", x.clauses(), 0);
        Reading.formula(x, "p cnf 3 2 1 2 0 -1 0");
        check.same("clauses()", x.clauses(), 2);
        Reading.stream(x, "3 0");
        check.same("clauses() with a stream", x.clauses(), 3);
        Reading.formula(x, "p cnf 3 0");
        check.same("clauses() without the stream", x.clauses(), 0);
    }

    private static void literals(Check check) {
        check.about("Literal k of clause c (the clauses from 1, the literals from 0)");
        StreamRefuter x = Check.with("p cnf 6 3 1 -2 3 -4 5 -6 0 0 2 0", "6 -5 0 d 2 0 -1 0");
        int[][] due = {{1, -2, 3, -4, 5, -6}, {}, {2}, {6, -5}, {-1}};
        for (int c = 1; c <= due.length; c++) {
            for (int k = 0; k < due[c - 1].length; k++) {
                check.same("literal(" + c + ", " + k + ")", x.literal(c, k), due[c - 1][k]);
            }
        }
    }

    private static void noSuchLiteral(Check check) {
        check.about("0 if there is none.");
        StreamRefuter x = Check.with("p cnf 6 3 1 -2 3 -4 5 -6 0 0 2 0", "6 -5 0 d 2 0 -1 0");
        // The last ones but two wrap around when they are multiplied by 6, or used as a shift.
        int[][] none = {{1, 6}, {1, -1}, {2, 0}, {2, -1}, {3, 1}, {4, 2}, {4, -1}, {5, 1}, {6, 0},
            {0, 0}, {0, 6}, {-1, 0}, {-1, 6}, {63, 0}, {64, 0}, {65, 0}, {1, 7}, {2, 6}, {0, 1},
            {Integer.MAX_VALUE, 0}, {Integer.MIN_VALUE, 0}, {1, Integer.MAX_VALUE},
            {1, Integer.MIN_VALUE}, {715827883, 0}, {-715827882, 0}, {1431655766, 0},
            {1 << 30, 6}, {-1, 12}};
        for (int[] at : none) {
            check.same("literal(" + at[0] + ", " + at[1] + ")", x.literal(at[0], at[1]), 0);
        }
        // What was a literal of another formula or stream is none now.
        Reading.stream(x, "6 0");
        check.same("literal(4, 1) of another stream", x.literal(4, 1), 0);
        check.same("literal(5, 0) of another stream", x.literal(5, 0), 0);
        Reading.formula(x, "p cnf 6 1 1 0");
        check.same("literal(1, 1) of another formula", x.literal(1, 1), 0);
        check.same("literal(4, 0) without a stream", x.literal(4, 0), 0);
    }
}
