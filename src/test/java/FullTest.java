/**
 * Promise 12, FULL: records of just 2000 tokens, and of one more.
 *
 * <p>Many clauses with the pivot 1 are spared, each by all clauses with -1; for nearly each pair
 * the variables 12 .. 16 make a chain of reasons up to a conflict. Then one clause of the chain is
 * deleted, so that the refuting needs all that was spared. Copies of a clause of the formula are
 * never needed, and lengthen the first dropping line by one token each.
 */
public final class FullTest {
    public static void main(String[] args) {
        Check check = new Check("FullTest");
        moreThan2000(check);
        keepsTheOld(check);
        failsBefore(check);
        theLastToken(check);
        check.finish();
    }

    private static void moreThan2000(Check check) {
        check.about("otherwise FULL, when the record would have more than 2000 tokens");
        int[] due = {38, 38, StreamRefuter.FULL, StreamRefuter.FULL};
        int[] tokens = {1996, 2000, 0, 0};
        for (int copies = 0; copies < due.length; copies++) {
            StreamRefuter x = Check.with(formula(copies), stream());
            check.same("forward()", x.forward(), 0);
            check.same("refute() with " + copies + " copies", x.refute(), due[copies]);
            check.same("tokens() with " + copies + " copies", x.tokens(), tokens[copies]);
            check.same("judge() with " + copies + " copies", x.judge() > 0, tokens[copies] > 0);
            check.same("marked(1)", x.marked(1), tokens[copies] > 0);
            check.same("way(1)", x.way(1), tokens[copies] > 0 ? 2 : 0);
        }
        StreamRefuter y = Check.with(wideFormula(), wideStream());
        check.same("forward() of many more than 2000", y.forward(), 0);
        check.same("refute() of many more than 2000", y.refute(), StreamRefuter.FULL);
        check.same("marks of many more than 2000", Check.marks(y), "");
    }

    private static void keepsTheOld(Check check) {
        check.about("Without changing anything");
        StreamRefuter x = Check.with(formula(2), stream());
        String before = Reading.state(x);
        check.same("refute()", x.refute(), StreamRefuter.FULL);
        check.same("all as before", Reading.state(x), before);
        StreamRefuter y = Check.with(formula(2), stream());
        Reading.record(y, "5 0 1 0 6 d 1 0");
        y.alter(0, 7);
        check.same("refute()", y.refute(), StreamRefuter.FULL);
        check.same("the record stays", Check.record(y), "7 0 1 0 6 d 1 0");
        check.same("judge()", y.judge(), -1);
        check.same("fault()", y.fault(), 0);
        check.same("refute() again", y.refute(), StreamRefuter.FULL);
        check.same("the record stays", Check.record(y), "7 0 1 0 6 d 1 0");
        check.same("marks", Check.marks(y), "");
    }

    /** A clause of the formula is added by the first step instead: a wrong one, and a right one. */
    private static void failsBefore(Check check) {
        check.about("-k when it fails at step k; otherwise FULL");
        String[] moved = {" -12 13 0", " -12 -13 14 0", " -1 -12 -5 -7 0"};
        int[] due = {-1, -1, StreamRefuter.FULL};
        for (int i = 0; i < moved.length; i++) {
            String rest = formula(3).replaceFirst("26", "25").replaceFirst(moved[i], "");
            StreamRefuter x = Check.with(rest, moved[i] + " " + stream());
            check.same("refute() with" + moved[i] + " moved", x.refute(), due[i]);
            check.same("forward() with" + moved[i] + " moved", x.forward(), due[i] == -1 ? 1 : 0);
            check.same("tokens()", x.tokens(), 0);
        }
        String rest = wideFormula().replaceFirst("31", "30").replaceFirst(moved[0], "");
        StreamRefuter y = Check.with(rest, moved[0] + " " + wideStream());
        check.same("refute() of many more than 2000", y.refute(), -1);
    }

    private static void theLastToken(Check check) {
        check.about("Token i of the record (from 0); 0 if there is none.");
        StreamRefuter x = Check.with(formula(1), stream());
        x.refute();
        check.same("token(0)", x.token(0), 24);
        check.same("token(1)", x.token(1), StreamRefuter.DROP);
        check.same("token(1998)", x.token(1998) > 0, true);
        check.same("token(1999)", x.token(1999), 0);
        check.same("token(2000)", x.token(2000), 0);
        check.about("False, changing nothing, if there is none");
        check.same("alter(2000, 1)", x.alter(2000, 1), false);
        check.same("tokens()", x.tokens(), 2000);
        check.same("alter(1999, 1)", x.alter(1999, 1), true);
        check.same("token(1999)", x.token(1999), 1);
        check.same("judge() of a line without an end", x.judge() < 0, true);
        check.same("refute() again", x.refute(), 38);
        check.same("token(1999) again", x.token(1999), 0);
        check.same("tokens() again", x.tokens(), 2000);
    }

    private static String formula(int copies) {
        StringBuilder row = new StringBuilder("p cnf 16 " + (23 + copies));
        for (int sign = -5; sign <= 5; sign += 10) {
            for (int z = 6; z <= 11; z++) {
                // The first one names the end of the chain, which makes its groups short.
                String end = sign < 0 && z == 6 ? " -16 " : " ";
                row.append(" -1 -12").append(end).append(sign).append(" ").append(-z).append(" 0");
            }
        }
        row.append(" -6 -7 -8 -9 -10 -11 0 6 7 8 9 10 11 0");
        row.append(" -12 13 0 -12 -13 14 0 -12 -14 15 0 -12 -15 16 0 -12 -16 2 0");
        row.append(" 12 5 0 12 -5 0 -2 5 0 -2 -5 0");
        return row.append(" 12 5 0".repeat(copies)).toString();
    }

    private static String stream() {
        StringBuilder row = new StringBuilder();
        int split = 3;
        for (String signs : new String[] {"-3 -4 ", "-3 4 ", "3 -4 ", "3 4 "}) {
            for (int z = 6; z <= 11; z++) {
                String clause = "1 2 " + signs + z + " ";
                if (split > 0) {
                    row.append(clause).append("11 0 ").append(clause).append("-11 0 ");
                    split--;
                }
                row.append(clause).append("0 ");
            }
        }
        row.append("d -12 -16 2 0 1 2 -3 -4 0 1 2 -3 0 1 2 3 -4 0 1 2 0 ");
        return row.append("-1 -12 -5 0 -1 -12 0 12 0").toString();
    }

    /** Twenty clauses with -1, so that the groups alone are more than 2000 tokens. */
    private static String wideFormula() {
        StringBuilder row = new StringBuilder("p cnf 16 31");
        for (String signs : new String[] {" -5 -11 ", " -5 11 ", " 5 -11 ", " 5 11 "}) {
            for (int z = 6; z <= 10; z++) {
                row.append(" -1 -12").append(signs).append(-z).append(" 0");
            }
        }
        row.append(" -6 -7 -8 -9 -10 0 6 7 8 9 10 0");
        row.append(" -12 13 0 -12 -13 14 0 -12 -14 15 0 -12 -15 16 0 -12 -16 2 0");
        return row.append(" 12 5 0 12 -5 0 -2 5 0 -2 -5 0").toString();
    }

    private static String wideStream() {
        StringBuilder row = new StringBuilder("1 2 -3 -4 6 10 0 1 2 -3 -4 6 -10 0 ");
        for (String signs : new String[] {"-3 -4 ", "-3 4 ", "3 -4 ", "3 4 "}) {
            for (int z = 6; z <= 10; z++) {
                row.append("1 2 ").append(signs).append(z).append(" 0 ");
            }
        }
        row.append("d -12 -16 2 0 1 2 -3 -4 0 1 2 -3 0 1 2 3 -4 0 1 2 0 ");
        return row.append("-1 -12 5 11 0 -1 -12 5 0 -1 -12 -5 11 0 -1 -12 0 12 0").toString();
    }
}
