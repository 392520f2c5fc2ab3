/** Promises 2 and 3: feed and wipe. */
public final class TextTest {
    public static void main(String[] args) {
        Check check = new Check("TextTest");
        order(check);
        wrongCounts(check);
        room(check);
        highBytes(check);
        check.finish();
    }

    private static void order(Check check) {
        StreamRefuter x = new StreamRefuter();
        // p cnf 1 | 0 with more bytes above it, which do not count
        check.same("feed(8)", x.feed(8, 0x203120666e632070L), true);
        check.same("feed(1)", x.feed(1, 0x7777777777777730L), true);
        check.same("formula()", x.formula(), 0);
        check.same("wipe()", x.wipe(), 9);
        check.same("wipe() again", x.wipe(), 0);
        check.same("record() of the empty text", x.record(), 0);
    }

    private static void wrongCounts(Check check) {
        StreamRefuter x = new StreamRefuter();
        int[] wrong = {0, -1, 9, 16, Integer.MAX_VALUE, Integer.MIN_VALUE};
        for (int n : wrong) {
            check.same("feed(" + n + ", 48)", x.feed(n, 48), false);
        }
        check.same("wipe() behind them", x.wipe(), 0);
        for (int n = 1; n <= 8; n++) {
            check.same("feed(" + n + ", 0)", x.feed(n, 0), true);
        }
        check.same("wipe() of 1 + .. + 8", x.wipe(), 36);
    }

    private static void room(Check check) {
        StreamRefuter x = new StreamRefuter();
        for (int i = 0; i < 112; i++) {
            check.same("feed(8) in room", x.feed(8, 0x2020202020202020L), true);
        }
        check.same("feed(5) beyond 900", x.feed(5, 0x2020202020L), false);
        check.same("feed(8) beyond 900", x.feed(8, 0x2020202020202020L), false);
        check.same("feed(4) up to 900", x.feed(4, 0x20202020L), true);
        check.same("feed(1) beyond 900", x.feed(1, 0x20L), false);
        check.refuses("formula() of 900 blanks", "IllegalArgumentException", x::formula);
        check.same("fault() of 900 blanks", x.fault(), 901);
        check.same("wipe() of 900", x.wipe(), 900);
        check.same("feed(1) behind that", x.feed(1, 0x20L), true);
    }

    /** Bytes from 128 on are no negative ones: a packed number needs them. */
    private static void highBytes(Check check) {
        StreamRefuter x = Check.with("p cnf 16 0");
        x.wipe();
        check.same("feed(4)", x.feed(4, 0x80a061L), true);
        check.refuses("stream(true)", "IllegalArgumentException", () -> x.stream(true));
        check.same("fault()", x.fault(), 2);
        Check.put(x, 97, 0xa1, 0, 0x80, 0);
        check.same("stream(true) of -16", x.stream(true), 1);
        check.same("literal(1, 0)", x.literal(1, 0), -16);
    }
}
