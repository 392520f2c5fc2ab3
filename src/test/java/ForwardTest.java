/** Promise 11, and what IMPLIED, SPARED and RIGHT say for it. */
public final class ForwardTest {
    public static void main(String[] args) {
        Check check = new Check("ForwardTest");
        String square = "p cnf 4 4 1 2 0 -1 2 0 1 -2 0 -1 -2 0";
        String cube = "p cnf 5 9 1 2 4 0 1 -2 4 0 -1 2 4 0 -1 -2 4 0 1 2 -4 0 1 -2 -4 0 "
                + "-1 2 -4 0 -1 -2 -4 0 ";
        String[][] runs = {
            {square, "", "0"},
            {square, "2 0", "0"},
            {square, "2 0 0 d 0", "0"},
            // no clause has the opposite of the pivot
            {"p cnf 3 0", "1 0 2 -1 0", "0"},
            {"p cnf 3 1 1 2 0", "3 -1 0", "0"},
            // a candidate that fails; the pivot is the first literal alone
            {"p cnf 3 1 1 2 0", "-1 3 0", "1"},
            {"p cnf 3 1 1 2 0", "3 0 3 -2 0 -1 3 0 -2 -3 0", "4"},
            {"p cnf 3 1 1 0", "-1 0", "1"},
            // another literal of the candidate is true
            {"p cnf 3 1 1 2 0", "-1 -2 0", "0"},
            {"p cnf 3 2 1 2 0 1 3 0", "-1 -2 0", "1"},
            {"p cnf 3 3 1 2 0 1 3 0 -2 3 0", "-1 -2 0", "0"},
            // a conflict from the opposites of the candidate's other literals
            {cube + "3 4 0", "-3 1 0", "0"},
            {cube + "3 5 0", "-3 1 0", "1"},
            {cube + "3 5 0", "1 2 3 0 -3 1 0", "2"},
            // behind each candidate what was true before it is so again, and no more
            {"p cnf 4 4 1 2 0 1 3 0 2 -4 0 3 -4 0", "-1 4 0", "1"},
            {"p cnf 4 5 -1 2 0 -1 3 0 2 3 0 2 -3 0 3 -2 0", "1 4 0", "0"},
            {"p cnf 4 4 -1 2 0 -1 3 0 2 4 0 2 -4 0", "1 0", "1"},
            {"p cnf 4 5 -1 2 0 -1 -2 0 -1 3 0 2 4 0 2 -4 0", "1 0", "1"},
            // the empty clause is not spared
            {"p cnf 1 0", "0", "1"},
            {"p cnf 1 1 1 0", "1 0 0", "2"},
            // deletions are not looked at, but what they did is
            {"p cnf 3 1 1 2 0", "d 1 2 0 -1 3 0", "0"},
            {square, "d 1 2 0 2 0", "2"},
            {square, "d 1 2 0 d 2 1 0 3 0 2 0", "4"},
            // steps behind the end do not count; those up to it do
            {square, "2 0 -1 0", "0"},
            {"p cnf 3 1 1 0", "2 0 -1 0 0", "2"},
            {"p cnf 3 2 1 0 -1 0", "0", "0"},
            // without an end all steps count
            {"p cnf 3 2 1 2 0 1 -2 0", "1 0 3 0 -3 0 2 0", "3"},
            {"p cnf 3 2 1 2 0 1 -2 0", "1 0 3 0 d 3 0 2 0", "0"},
        };
        for (String[] run : runs) {
            StreamRefuter x = Check.with(run[0], run[1]);
            String what = "forward() of " + run[0] + " with " + run[1];
            check.same(what, x.forward(), Integer.parseInt(run[2]));
            check.same(what + ": no mark", Check.marks(x), "");
            check.same(what + ": no token", x.tokens(), 0);
        }
        StreamRefuter x = Check.with(square);
        check.refuses("forward() without a stream", "IllegalStateException", x::forward);
        check.finish();
    }
}
