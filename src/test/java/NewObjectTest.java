/** Promise 1: what a new object answers. */
public final class NewObjectTest {
    public static void main(String[] args) {
        Check check = new Check("NewObjectTest");
        StreamRefuter x = new StreamRefuter();
        check.same("fault()", x.fault(), 0);
        check.same("clauses()", x.clauses(), 0);
        check.same("literal(0, 0)", x.literal(0, 0), 0);
        check.same("literal(1, 0)", x.literal(1, 0), 0);
        check.same("tokens()", x.tokens(), 0);
        check.same("token(0)", x.token(0), 0);
        check.same("alter(0, 1)", x.alter(0, 1), false);
        check.same("marked(0)", x.marked(0), false);
        check.same("marked(1)", x.marked(1), false);
        check.same("way(0)", x.way(0), StreamRefuter.NONE);
        check.same("way(1)", x.way(1), StreamRefuter.NONE);
        check.refuses("end()", "IllegalStateException", x::end);
        check.refuses("forward()", "IllegalStateException", x::forward);
        check.refuses("refute()", "IllegalStateException", x::refute);
        check.refuses("judge()", "IllegalStateException", x::judge);
        check.refuses("stream(false)", "IllegalStateException", () -> x.stream(false));
        check.refuses("stream(true)", "IllegalStateException", () -> x.stream(true));
        check.same("fault() without a reading", x.fault(), 0);
        check.refuses("formula() of nothing", "IllegalArgumentException", x::formula);
        check.same("fault() of nothing", x.fault(), 1);
        check.same("record() of nothing", x.record(), 0);
        check.same("fault() behind record()", x.fault(), 0);
        check.same("wipe()", x.wipe(), 0);
        check.same("NONE", StreamRefuter.NONE, -1);
        check.same("FULL", StreamRefuter.FULL, -1000);
        check.same("DROP", StreamRefuter.DROP, 10000);
        apart(check);
        check.finish();
    }

    /** Two objects have nothing in common. */
    private static void apart(Check check) {
        StreamRefuter x = Check.with("p cnf 1 2 1 0 -1 0", "1 0");
        x.refute();
        StreamRefuter y = new StreamRefuter();
        check.same("tokens() of another", y.tokens(), 0);
        check.same("wipe() of another", y.wipe(), 0);
        check.same("clauses() of another", y.clauses(), 0);
    }
}
