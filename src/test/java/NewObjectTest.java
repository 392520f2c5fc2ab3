/** Promise 1: what a new object answers. And the constants. */
public final class NewObjectTest {
    public static void main(String[] args) {
        Check check = new Check("NewObjectTest");
        emptyText(check);
        noFormula(check);
        noStream(check);
        noTokens(check);
        constants(check);
        manyCalls(check);
        apart(check);
        check.finish();
    }

    private static void emptyText(Check check) {
        check.about("The text is empty");
        check.same("wipe()", new StreamRefuter().wipe(), 0);
        StreamRefuter x = new StreamRefuter();
        check.same("fault() before any reading", x.fault(), 0);
        check.same("formula()", Reading.outcome(x, x::formula), "fault 1");
        check.same("record()", Reading.outcome(x, x::record), "0");
        StreamRefuter y = new StreamRefuter();
        for (int i = 0; i < 112; i++) {
            check.same("feed(8)", y.feed(8, 0), true);
        }
        check.same("feed(4)", y.feed(4, 0), true);
        check.same("feed(1)", y.feed(1, 0), false);
    }

    private static void noFormula(Check check) {
        check.about("there is no formula");
        StreamRefuter x = new StreamRefuter();
        check.same("clauses()", x.clauses(), 0);
        check.same("literal(0, 0)", x.literal(0, 0), 0);
        check.same("literal(1, 0)", x.literal(1, 0), 0);
        check.refuses("judge()", "IllegalStateException", x::judge);
        check.refuses("stream(false)", "IllegalStateException", () -> x.stream(false));
        check.refuses("stream(true)", "IllegalStateException", () -> x.stream(true));
        check.same("fault() behind them", x.fault(), 0);
    }

    private static void noStream(Check check) {
        check.about("no stream");
        StreamRefuter x = new StreamRefuter();
        check.refuses("end()", "IllegalStateException", x::end);
        check.refuses("forward()", "IllegalStateException", x::forward);
        check.refuses("refute()", "IllegalStateException", x::refute);
        check.same("way(0)", x.way(0), StreamRefuter.NONE);
        check.same("way(1)", x.way(1), StreamRefuter.NONE);
        check.same("marked(0)", x.marked(0), false);
        check.same("marked(1)", x.marked(1), false);
    }

    private static void noTokens(Check check) {
        check.about("the record has no tokens");
        StreamRefuter x = new StreamRefuter();
        check.same("tokens()", x.tokens(), 0);
        check.same("token(0)", x.token(0), 0);
        check.same("token(-1)", x.token(-1), 0);
        check.same("alter(0, 1)", x.alter(0, 1), false);
        check.same("tokens() behind that", x.tokens(), 0);
    }

    private static void constants(Check check) {
        check.about("The token for d.");
        check.same("DROP", StreamRefuter.DROP, 10000);
        check.about("public static final int NONE = -1;");
        check.same("NONE", StreamRefuter.NONE, -1);
        check.about("public static final int FULL = -1000;");
        check.same("FULL", StreamRefuter.FULL, -1000);
    }

    /** Sixteen calls, 32 times over: the last of them are answered as the first ones are. */
    private static void manyCalls(Check check) {
        check.about("An object is used for at most 512 calls after it has been made");
        StreamRefuter x = new StreamRefuter();
        for (int turn = 0; turn < 32; turn++) {
            check.same("wipe()", x.wipe(), turn == 0 ? 0 : 4);
            check.same("feed(8)", x.feed(8, 0x203120666e632070L), true);
            check.same("feed(6)", x.feed(6, 0x302031203120L), true);
            check.same("formula()", x.formula(), 1);
            check.same("wipe()", x.wipe(), 14);
            check.same("feed(4)", x.feed(4, 0x3020312dL), true);
            check.same("stream(false)", x.stream(false), 1);
            check.same("clauses()", x.clauses(), 2);
            check.same("literal(2, 0)", x.literal(2, 0), -1);
            check.same("end()", x.end(), 1);
            check.same("forward()", x.forward(), 1);
            check.same("refute()", x.refute(), -1);
            check.same("tokens()", x.tokens(), 0);
            check.refuses("record()", "IllegalArgumentException", x::record);
            check.same("fault()", x.fault(), 5);
            check.same("judge()", x.judge(), 0);
        }
    }

    /** Two objects have nothing in common. */
    private static void apart(Check check) {
        StreamRefuter x = Check.with("p cnf 1 2 1 0 -1 0", "1 0");
        x.refute();
        String before = Reading.state(x);
        StreamRefuter y = new StreamRefuter();
        check.same("tokens() of another", y.tokens(), 0);
        check.same("clauses() of another", y.clauses(), 0);
        check.same("wipe() of another", y.wipe(), 0);
        Reading.formula(y, "p cnf 1 0");
        Reading.record(y, "1 1 0 0");
        check.same("the first as before", Reading.state(x), before);
        check.same("its wipe()", x.wipe(), 3);
    }
}
