/** Promise 4, and what FORMULA says: formulas, and those that are refused. */
public final class FormulaTest {
    private static final String OLD = "p cnf 2 2 1 0 -1 0";

    public static void main(String[] args) {
        Check check = new Check("FormulaTest");
        firstWords(check);
        howManyClauses(check);
        eachClause(check);
        numbering(check);
        becomesTheFormula(check);
        noStreamThen(check);
        refused(check);
        refusedFirst(check);
        check.finish();
    }

    private static void firstWords(Check check) {
        check.about("FORMULA: the words p and cnf");
        Reading.formulas(check, "", "fault 1", " ", "fault 2", "q", "fault 1", "P cnf 1 0", "fault 1",
                "pp cnf 1 0", "fault 1", "pcnf 1 0", "fault 1", "p\tcnf 1 0", "fault 1",
                "cnf p 1 0", "fault 1", "p", "fault 2", "p dnf 1 0", "fault 3", "p CNF 1 0", "fault 3",
                "p cn 1 0", "fault 3", "p cnff 1 0", "fault 3", "p p cnf 1 0", "fault 3",
                "p 1 0", "fault 3", "0 cnf 1 0", "fault 1", "c p cnf 1 0", "fault 1");
    }

    private static void howManyClauses(Check check) {
        check.about("the numbers V and M (0 .. 40)");
        Reading.formulas(check, "p cnf 1 0", "0", "p cnf 1 1 0", "1",
                "p cnf 1 40" + " 0".repeat(40), "40", "p cnf 1 39" + " 0".repeat(39), "39",
                "p cnf 1 41" + " 0".repeat(41), "fault 9", "p cnf 1 41", "fault 9",
                "p cnf 1 -1", "fault 9", "p cnf 1 -40", "fault 9", "p cnf 1 9999", "fault 9",
                "p cnf 1 x", "fault 9", "p cnf x 0", "fault 7", "p cnf 1 d", "fault 9",
                "p cnf d 0", "fault 7");
    }

    private static void eachClause(Check check) {
        check.about("M clauses, each its literals and then 0");
        Reading.formulas(check, "p cnf 2 2 1 0 2 0", "2", "p cnf 2 2 1 0 0", "2",
                "p cnf 2 2 1 0", "fault 14", "p cnf 2 2 1 0 2", "fault 16", "p cnf 2 1", "fault 10",
                // one clause more, or anything else behind the last one
                "p cnf 2 1 1 0 0", "fault 15", "p cnf 2 1 1 0 2 0", "fault 15",
                "p cnf 2 0 0", "fault 11", "p cnf 2 0 1", "fault 11", "p cnf 2 1 1 0 p", "fault 15",
                "p cnf 2 1 1 0\n \n", "1",
                "p cnf 2 1 d 1 0", "fault 11", "p cnf 2 1 1 d 0", "fault 13");
    }

    private static void numbering(Check check) {
        check.about("They are the clauses 1 .. M.");
        StringBuilder row = new StringBuilder("p cnf 16 40");
        for (int c = 1; c <= 40; c++) {
            row.append(" ").append(firstOf(c)).append(c % 2 == 0 ? " 0" : " 16 0");
        }
        StreamRefuter x = new StreamRefuter();
        check.same("formula() of 40 clauses", Reading.formula(x, row.toString()), "40");
        for (int c = 1; c <= 40; c++) {
            check.same("literal(" + c + ", 0)", x.literal(c, 0), firstOf(c));
            check.same("literal(" + c + ", 1)", x.literal(c, 1), c % 2 == 0 ? 0 : 16);
        }
        check.same("literal(0, 0)", x.literal(0, 0), 0);
        check.same("literal(41, 0)", x.literal(41, 0), 0);
    }

    private static int firstOf(int c) {
        return c <= 15 ? c : c <= 30 ? 15 - c : c - 30;
    }

    private static void becomesTheFormula(Check check) {
        check.about("The text becomes the formula (and stays the text), "
                + "in place of the one that was");
        StreamRefuter x = Check.with(OLD);
        check.same("formula() in its place", Reading.formula(x, "p cnf 3 1 3 2 0"), "1");
        check.same("clauses()", x.clauses(), 1);
        check.same("literal(1, 0)", x.literal(1, 0), 3);
        check.same("literal(1, 1)", x.literal(1, 1), 2);
        check.same("literal(2, 0)", x.literal(2, 0), 0);
        check.same("formula() of the same text", x.formula(), 1);
        check.same("wipe() behind it", x.wipe(), 15);
        check.same("clauses() behind wipe()", x.clauses(), 1);
        // The new V is the one that counts: 3 is a literal now, 4 is none.
        check.same("stream(false) of 3", Reading.stream(x, "3 0"), "1");
        check.same("stream(false) of 4", Reading.stream(x, "4 0"), "fault 1");
        check.about("Answers M.");
        for (int m = 0; m <= 40; m++) {
            check.same("formula() of " + m, Reading.formula(x, "p cnf 1 " + m + " 1 0".repeat(m)),
                    String.valueOf(m));
            check.same("clauses()", x.clauses(), m);
            if (m % 8 == 7) {
                x = Check.with(OLD);
            }
        }
    }

    private static void noStreamThen(Check check) {
        check.about("there is no stream then, and the record has no tokens");
        StreamRefuter x = Check.with(OLD, "2 0");
        check.same("refute()", x.refute(), 1);
        check.same("tokens() before", x.tokens() > 0, true);
        // The very same formula again is a new one, too.
        check.same("formula()", Reading.formula(x, OLD), "2");
        check.same("tokens()", x.tokens(), 0);
        check.same("token(0)", x.token(0), 0);
        check.same("alter(0, 1)", x.alter(0, 1), false);
        check.same("judge()", x.judge(), 0);
        check.same("clauses()", x.clauses(), 2);
        check.same("literal(3, 0)", x.literal(3, 0), 0);
        check.same("marks", Check.marks(x), "");
        check.same("way(1)", x.way(1), StreamRefuter.NONE);
        check.refuses("end()", "IllegalStateException", x::end);
        check.refuses("forward()", "IllegalStateException", x::forward);
        check.refuses("refute()", "IllegalStateException", x::refute);
        check.same("a stream behind it", Reading.stream(x, "2 0"), "1");
        check.same("its marks", Check.marks(x), "");
        check.same("its end()", x.end(), 0);
    }

    private static void refused(Check check) {
        check.about("IllegalArgumentException when it has a fault.");
        String[] faulty = {"", "x", "p cnf 0 0", "p cnf 3 1 3 2 1", "p cnf 3 1 3 2 0 0",
            "p cnf 16 40" + " 1 0".repeat(39)};
        for (String text : faulty) {
            StreamRefuter x = Check.with(OLD, "2 0");
            x.refute();
            String before = Reading.state(x);
            Check.put(x, text);
            check.refuses("formula() of " + text, "IllegalArgumentException", x::formula);
            check.same("all as before " + text, Reading.state(x), before);
            check.same("refute() as before", x.refute(), 1);
            check.same("wipe(): the text stays", x.wipe(), text.length());
        }
    }

    /** Without any formula before it, a faulty one makes none. */
    private static void refusedFirst(Check check) {
        for (String text : new String[] {"", "p cnf 2 2 1 0 2", "p cnf 2 2 1 0 2 0 x"}) {
            StreamRefuter x = new StreamRefuter();
            Check.put(x, text);
            check.refuses("formula() of " + text, "IllegalArgumentException", x::formula);
            check.same("clauses()", x.clauses(), 0);
            check.same("literal(1, 0)", x.literal(1, 0), 0);
            check.refuses("judge()", "IllegalStateException", x::judge);
            check.refuses("stream(false)", "IllegalStateException", () -> x.stream(false));
        }
    }
}
