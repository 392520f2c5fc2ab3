/** Promises 4, 7, 8 and 9: formulas, their faults, their clauses. */
public final class FormulaTest {
    public static void main(String[] args) {
        Check check = new Check("FormulaTest");
        good(check);
        faults(check);
        replaces(check);
        faultKeeps(check);
        largest(check);
        check.finish();
    }

    private static void good(Check check) {
        String[] texts = {"p cnf 1 0", "\n p\n\ncnf   16\n0 \n", "p cnf 2 1 0", "p cnf 2 2 1 -2 0 0",
            "p cnf 6 1 1 -2 3 -4 5 -6 0"};
        int[] sizes = {0, 0, 1, 2, 1};
        for (int i = 0; i < texts.length; i++) {
            StreamRefuter x = new StreamRefuter();
            Check.put(x, texts[i]);
            check.same("formula() of " + texts[i], x.formula(), sizes[i]);
            check.same("fault()", x.fault(), 0);
            check.same("clauses()", x.clauses(), sizes[i]);
            check.same("wipe(): the text stays", x.wipe(), texts[i].length());
            check.same("tokens()", x.tokens(), 0);
        }
        StreamRefuter x = Check.with("p cnf 6 3 1 -2 3 -4 5 -6 0 0 2 0");
        int[] due = {1, -2, 3, -4, 5, -6};
        for (int k = 0; k < 6; k++) {
            check.same("literal(1, " + k + ")", x.literal(1, k), due[k]);
        }
        int[][] none = {{1, 6}, {1, -1}, {2, 0}, {3, 1}, {4, 0}, {0, 0}, {-1, 0}, {64, 0},
            {Integer.MAX_VALUE, 0}, {Integer.MIN_VALUE, 0}, {1, Integer.MAX_VALUE},
            {1, Integer.MIN_VALUE}};
        for (int[] at : none) {
            check.same("literal(" + at[0] + ", " + at[1] + ")", x.literal(at[0], at[1]), 0);
        }
        check.same("literal(3, 0)", x.literal(3, 0), 2);
    }

    private static void faults(Check check) {
        String[] texts = {"", " ", "q", "p", "p ", "P cnf 1 0", "pcnf 1 0", "p\tcnf 1 0", "p dnf 1 0",
            "p cnf", "p cnf 0 0", "p cnf 17 0", "p cnf -1 0", "p cnf 01 0", "p cnf x 0",
            "p cnf 1 41", "p cnf 1 -1", "p cnf 1 00", "p cnf 1 -0", "p cnf 1", "p cnf 1 0 0",
            "p cnf 2 1 1 2", "p cnf 2 1 1 2 \n", "p cnf 2 1 3 0", "p cnf 2 1 -3 0",
            "p cnf 2 1 1 1 0", "p cnf 2 1 1 -1 0", "p cnf 7 1 1 2 3 4 5 6 7 0",
            "p cnf 1 1 1 0 0", "p cnf 1 1 d 1 0", "p cnf 1 1 +1 0", "p cnf 1 1 1 0 p",
            "p cnf 1 2 1 0", "p cnf 1 1 - 0", "p cnf 1 1 1- 0", "p cnf 1 1 1 0x", "p cnf 1 1 00001 0",
            "p cnf 1 1 1\r 0", "p cnf 1 1 --1 0", "p cnf 10000 1"};
        int[] places = {1, 2, 1, 2, 3, 1, 1, 1, 3,
            6, 7, 7, 7, 7, 7,
            9, 9, 9, 9, 8, 11,
            14, 16, 11, 11,
            13, 13, 23,
            15, 11, 11, 15,
            14, 11, 11, 13, 11,
            11, 11, 7};
        for (int i = 0; i < texts.length; i++) {
            StreamRefuter x = new StreamRefuter();
            Check.put(x, texts[i]);
            check.refuses("formula() of " + texts[i], "IllegalArgumentException", x::formula);
            check.same("fault() of " + texts[i], x.fault(), places[i]);
            check.refuses("judge() without a formula", "IllegalStateException", x::judge);
        }
    }

    private static void replaces(Check check) {
        StreamRefuter x = Check.with("p cnf 2 2 1 0 -1 0", "2 0");
        check.same("refute()", x.refute(), 1);
        Check.put(x, "p cnf 3 1 3 2 0");
        check.same("formula() in its place", x.formula(), 1);
        check.same("clauses()", x.clauses(), 1);
        check.same("literal(1, 0)", x.literal(1, 0), 3);
        check.same("literal(2, 0)", x.literal(2, 0), 0);
        check.same("tokens()", x.tokens(), 0);
        check.same("marked(1)", x.marked(1), false);
        check.same("way(1)", x.way(1), StreamRefuter.NONE);
        check.refuses("end() without a stream", "IllegalStateException", x::end);
        check.refuses("forward() without a stream", "IllegalStateException", x::forward);
        check.refuses("refute() without a stream", "IllegalStateException", x::refute);
        check.same("judge() of no tokens", x.judge(), 0);
    }

    private static void faultKeeps(Check check) {
        StreamRefuter x = Check.with("p cnf 2 2 1 0 -1 0", "2 0");
        x.refute();
        String record = Check.record(x);
        Check.put(x, "p cnf 3 1 3 2 1");
        check.refuses("formula() that ends too early", "IllegalArgumentException", x::formula);
        check.same("fault()", x.fault(), 16);
        check.same("clauses() as before", x.clauses(), 3);
        check.same("literal(3, 0) as before", x.literal(3, 0), 2);
        check.same("record as before", Check.record(x), record);
        check.same("marks as before", Check.marks(x), "1 2");
        check.same("end() as before", x.end(), 0);
        check.same("way(1) as before", x.way(1), 0);
        check.same("wipe(): the text stays", x.wipe(), 15);
    }

    /** Forty clauses, and variables up to 16. */
    private static void largest(Check check) {
        StringBuilder row = new StringBuilder("p cnf 16 40");
        for (int c = 1; c <= 40; c++) {
            row.append(c % 2 == 0 ? " -16 1 0" : " 16 -2 0");
        }
        StreamRefuter x = new StreamRefuter();
        Check.put(x, row.toString());
        check.same("formula() of 40 clauses", x.formula(), 40);
        check.same("literal(40, 0)", x.literal(40, 0), -16);
        check.same("literal(39, 0)", x.literal(39, 0), 16);
    }
}
