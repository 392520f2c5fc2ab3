/** Promises 2 and 3: feed and wipe. */
public final class TextTest {
    private static final int[] WRONG_COUNTS = {0, -1, 9, 10, 16, 64, -8, 256 + 1, Integer.MAX_VALUE,
        Integer.MIN_VALUE, Integer.MIN_VALUE + 1};

    public static void main(String[] args) {
        Check check = new Check("TextTest");
        order(check);
        highBytes(check);
        wrongCounts(check);
        room(check);
        wiping(check);
        check.finish();
    }

    private static void order(Check check) {
        check.about("Adds the lowest n bytes of a long to the text, the lowest first.");
        String text = "7 d -1 23 4567 0";
        for (int n = 1; n <= 8; n++) {
            StreamRefuter x = new StreamRefuter();
            for (int from = 0; from < text.length(); from += n) {
                int some = Math.min(n, text.length() - from);
                // The bytes above the lowest ones would be digits, if they counted.
                long row = 0x3333333333333333L;
                for (int k = 0; k < some; k++) {
                    row &= ~(255L << 8 * k);
                    row |= (long) text.charAt(from + k) << 8 * k;
                }
                check.same("feed(" + some + ")", x.feed(some, row), true);
            }
            check.same("record() fed by " + n, x.record(), 1);
            check.same("its tokens", Check.record(x), text);
            check.same("wipe()", x.wipe(), text.length());
        }
    }

    /** Bytes from 128 on are no negative ones: a packed number needs them. */
    private static void highBytes(Check check) {
        StreamRefuter x = Check.with("p cnf 16 0");
        x.wipe();
        check.same("feed(5) of 97 161 0 128 0", x.feed(5, 0x008000a161L), true);
        check.same("stream(true) of -16", x.stream(true), 1);
        check.same("literal(1, 0)", x.literal(1, 0), -16);
        x.wipe();
        check.same("feed(8) of a long below 0", x.feed(8, 0x800561008000a161L), true);
        check.same("feed(1)", x.feed(1, 0), true);
        check.same("stream(true) of -16 and -2", x.stream(true), 2);
        check.same("literal(1, 0)", x.literal(1, 0), -16);
        check.same("literal(2, 0)", x.literal(2, 0), -2);
    }

    private static void wrongCounts(Check check) {
        check.about("False, changing nothing, when n is not 1 .. 8");
        StreamRefuter x = new StreamRefuter();
        for (int n : WRONG_COUNTS) {
            check.same("feed(" + n + ") to the empty text", x.feed(n, '0'), false);
        }
        check.same("wipe() behind them", x.wipe(), 0);
        Check.put(x, "1 0 0");
        for (int n : WRONG_COUNTS) {
            check.same("feed(" + n + ")", x.feed(n, '0'), false);
        }
        check.same("record() behind them", x.record(), 1);
        check.same("wipe() behind them", x.wipe(), 5);
        for (int n = 1; n <= 8; n++) {
            check.same("feed(" + n + ", 0)", x.feed(n, 0), true);
        }
        check.same("wipe() of 1 + .. + 8", x.wipe(), 36);
    }

    private static void room(Check check) {
        check.about("or there would be more than 900.");
        for (int n = 1; n <= 8; n++) {
            StreamRefuter x = new StreamRefuter();
            Check.put(x, "1 0 0" + " ".repeat(896 - n));
            check.same("feed(" + n + ") up to 901", x.feed(n, 0x7878787878787878L), false);
            check.same("record() behind it", x.record(), 1);
            check.same("wipe() behind it", x.wipe(), 901 - n);
            Check.put(x, "1 0 0" + " ".repeat(895 - n));
            check.same("feed(" + n + ") up to 900", x.feed(n, 0x2020202020202020L), true);
            for (int more = 1; more <= 8; more++) {
                check.same("feed(" + more + ") to 900", x.feed(more, 0x78L), false);
            }
            check.same("record() of 900", x.record(), 1);
            check.same("wipe() of 900", x.wipe(), 900);
        }
    }

    private static void wiping(Check check) {
        check.about("Makes the text empty: how many bytes it had.");
        StreamRefuter x = new StreamRefuter();
        check.same("wipe() of a new object", x.wipe(), 0);
        for (int size : new int[] {1, 7, 8, 9, 899, 900}) {
            Check.put(x, " ".repeat(size));
            check.same("wipe() of " + size, x.wipe(), size);
            check.same("wipe() of nothing", x.wipe(), 0);
        }
        check.same("record() of nothing", x.record(), 0);
        check.same("formula() of nothing", Reading.outcome(x, x::formula), "fault 1");
        // What was read stays, and so does the fault.
        Reading.formula(x, "p cnf 1 2 1 0 -1 0");
        Reading.stream(x, "1 0");
        x.refute();
        Reading.record(x, "x");
        String before = Reading.state(x);
        check.same("wipe()", x.wipe(), 1);
        check.same("fault() behind it", x.fault(), 1);
        check.same("all as before", Reading.state(x), before);
    }
}
