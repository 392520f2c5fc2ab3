import java.util.LinkedHashMap;
import java.util.Map;
import java.util.concurrent.Callable;

/** What the section 'Terms' says of calls that throw, for each call that can and in each state. */
public final class ThrowTest {
    private static final String SQUARE = "p cnf 2 4 1 2 0 -1 2 0 1 -2 0 -1 -2 0";
    private static final int STATES = 6;

    public static void main(String[] args) {
        Check check = new Check("ThrowTest");
        check.about("A call that throws changes nothing but fault().");
        readings(check);
        otherCalls(check);
        check.about("IllegalStateException when there is no formula.");
        withoutFormula(check);
        check.about("IllegalStateException when there is no stream.");
        withoutStream(check);
        check.about("Where two exceptions are listed, the first one goes before the other.");
        twoExceptions(check);
        check.finish();
    }

    /** A new object, and then one with more and more in it. */
    private static StreamRefuter inState(int state) {
        StreamRefuter x = new StreamRefuter();
        if (state == 1) {
            Reading.record(x, "5 2 0 1 2 0");
        }
        if (state >= 2) {
            Reading.formula(x, SQUARE);
        }
        if (state >= 3) {
            Reading.stream(x, "2 0 d 1 0");
        }
        if (state >= 4) {
            x.refute();
        }
        if (state >= 5) {
            Reading.record(x, "9 2 0 1 2 0 6 d 1 0");
            x.alter(0, 8);
        }
        return x;
    }

    private static Map<String, Callable<?>> calls(StreamRefuter x) {
        Map<String, Callable<?>> calls = new LinkedHashMap<>();
        calls.put("formula()", x::formula);
        calls.put("stream(false)", () -> x.stream(false));
        calls.put("stream(true)", () -> x.stream(true));
        calls.put("record()", x::record);
        calls.put("end()", x::end);
        calls.put("forward()", x::forward);
        calls.put("refute()", x::refute);
        calls.put("judge()", x::judge);
        return calls;
    }

    /** Readings of texts that are a fault for all of them, at the first place and later. */
    private static void readings(Check check) {
        for (String text : new String[] {"x", "p cnf 2 2 1 0 -1 x", "1 0 1 0 1 x"}) {
            for (int state = 0; state < STATES; state++) {
                for (String name : new String[] {"formula()", "stream(false)", "stream(true)",
                    "record()"}) {
                    StreamRefuter x = inState(state);
                    String before = Reading.state(x);
                    Check.put(x, text);
                    boolean noFormula = name.startsWith("stream") && state < 2;
                    String what = name + " of '" + text + "' in state " + state;
                    check.refuses(what, noFormula ? "IllegalStateException"
                            : "IllegalArgumentException", calls(x).get(name));
                    check.same(what + ": fault()", x.fault() > 0, !noFormula);
                    check.same(what + ": all as before", Reading.state(x), before);
                    check.same(what + ": the text stays", x.wipe(), text.length());
                }
            }
        }
    }

    /** Calls that are no readings leave fault(), too, be it 0 or not. */
    private static void otherCalls(Check check) {
        for (int state = 0; state < 3; state++) {
            for (String name : new String[] {"end()", "forward()", "refute()", "judge()"}) {
                if (name.equals("judge()") && state == 2) {
                    continue;
                }
                StreamRefuter x = inState(state);
                String before = Reading.state(x);
                String what = name + " in state " + state;
                check.refuses(what, "IllegalStateException", calls(x).get(name));
                check.same(what + ": fault()", x.fault(), 0);
                Reading.record(x, "1 x");
                check.refuses(what + " again", "IllegalStateException", calls(x).get(name));
                check.same(what + ": fault() of the reading", x.fault(), 3);
                check.same(what + ": all as before", Reading.state(x), before);
                check.same(what + ": the text stays", x.wipe(), 3);
            }
        }
    }

    private static void withoutFormula(Check check) {
        for (int state = 0; state < STATES; state++) {
            StreamRefuter x = inState(state);
            Object answer = Check.answer(x::judge);
            check.same("judge() throws in state " + state,
                    answer.equals("IllegalStateException"), state < 2);
            Check.put(x, "1 0");
            check.same("stream(false) throws in state " + state, Check.answer(calls(x).get(
                    "stream(false)")).equals("IllegalStateException"), state < 2);
        }
    }

    private static void withoutStream(Check check) {
        for (int state = 0; state < STATES; state++) {
            StreamRefuter x = inState(state);
            for (String name : new String[] {"end()", "forward()", "refute()"}) {
                check.same(name + " throws in state " + state, Check.answer(calls(x).get(name))
                        .equals("IllegalStateException"), state < 3);
            }
        }
    }

    private static void twoExceptions(Check check) {
        for (int state = 0; state < STATES; state++) {
            for (String name : new String[] {"stream(false)", "stream(true)"}) {
                StreamRefuter x = inState(state);
                Check.put(x, "x");
                check.refuses(name + " of a fault in state " + state, state < 2
                        ? "IllegalStateException" : "IllegalArgumentException", calls(x).get(name));
            }
        }
    }
}
