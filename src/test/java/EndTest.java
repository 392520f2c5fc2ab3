/** Promise 10, and what TIME and PROPAGATION say for it. */
public final class EndTest {
    public static void main(String[] args) {
        Check check = new Check("EndTest");
        String square = "p cnf 2 4 1 2 0 -1 2 0 1 -2 0 -1 -2 0";
        String[][] runs = {
            // conflicts of the formula alone
            {"p cnf 1 2 1 0 -1 0", "", "0"},
            {"p cnf 1 2 1 0 -1 0", "0 1 0", "0"},
            {"p cnf 1 1 0", "", "0"},
            {"p cnf 3 4 1 0 -1 2 0 -2 3 0 -3 -1 0", "", "0"},
            // propagation does not guess
            {square, "", "-1"},
            {"p cnf 1 0", "", "-1"},
            {"p cnf 2 0", "1 0 -2 0 1 2 0", "-1"},
            // the least number of steps, whatever the steps are worth
            {square, "2 0", "1"},
            {square, "1 2 0 2 0 1 0", "2"},
            {"p cnf 1 0", "1 0 -1 0 0", "2"},
            {"p cnf 1 0", "0 d 0", "1"},
            {"p cnf 1 0", "d 0 0", "2"},
            // deletions
            {"p cnf 1 1 1 0", "d 1 0 -1 0", "-1"},
            {"p cnf 1 1 1 0", "-1 0 d 1 0", "1"},
            {"p cnf 1 1 1 0", "d -1 0 -1 0", "2"},
            {"p cnf 1 1 1 0", "d 1 0 1 0 -1 0", "3"},
            {"p cnf 2 2 1 2 0 -1 0", "d 1 0 -2 0", "2"},
            {"p cnf 3 2 1 2 0 -1 0", "d 1 2 3 0 -2 0", "2"},
            {"p cnf 2 3 1 2 0 2 1 0 -1 0", "d 2 1 0 -2 0", "2"},
            {"p cnf 2 3 1 2 0 2 1 0 -1 0", "d 2 1 0 d 2 1 0 -2 0", "-1"},
            {"p cnf 2 3 1 2 0 2 1 0 -1 0", "d 2 1 0 d 1 2 0 d 1 2 0 -2 0 2 1 0", "5"},
            {"p cnf 3 2 3 1 2 0 -1 0", "d 2 3 1 0 -2 0 -3 0", "-1"},
            {"p cnf 2 1 1 0", "2 0 d 2 0 -2 0 d 1 0 2 0", "5"},
        };
        for (String[] run : runs) {
            StreamRefuter x = Check.with(run[0], run[1]);
            String what = "end() of " + run[0] + " with " + run[1];
            check.same(what, x.end(), Integer.parseInt(run[2]));
            check.same(what + " again", x.end(), Integer.parseInt(run[2]));
        }
        StreamRefuter x = Check.with(square);
        check.refuses("end() without a stream", "IllegalStateException", x::end);
        longChain(check);
        check.finish();
    }

    /** All sixteen variables become true, the last conflict coming behind them. */
    private static void longChain(Check check) {
        StringBuilder row = new StringBuilder("p cnf 16 17 -16 -1 0 ");
        for (int v = 15; v >= 1; v--) {
            row.append(-v).append(' ').append(v + 1).append(" 0 ");
        }
        StreamRefuter x = Check.with(row + "1 2 0", "d 1 2 0 1 0");
        check.same("end() of a chain", x.end(), 2);
    }
}
