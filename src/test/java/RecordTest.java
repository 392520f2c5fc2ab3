/** Promises 6, 7, 15, 16 and 17: records that are read, their tokens, and altering them. */
public final class RecordTest {
    public static void main(String[] args) {
        Check check = new Check("RecordTest");
        good(check);
        faults(check);
        altering(check);
        leavesTheRest(check);
        check.finish();
    }

    private static void good(Check check) {
        String[] texts = {"", " \n ", "0 0 0", "1 d 0", "0 d -5 9999 0", "-9999 1 -1 0 3 -4 0 7 d 1 0",
            "5\n2 0\n1 2 0\n\n5 d 1 2 0\n6 0 5 3 4 0\n"};
        int[] lines = {0, 0, 1, 1, 1, 2, 3};
        int[] tokens = {0, 0, 3, 3, 5, 11, 17};
        for (int i = 0; i < texts.length; i++) {
            // A formula is not needed for this.
            StreamRefuter x = new StreamRefuter();
            Check.put(x, texts[i]);
            check.same("record() of " + texts[i], x.record(), lines[i]);
            check.same("fault()", x.fault(), 0);
            check.same("tokens()", x.tokens(), tokens[i]);
            check.same("its tokens", Check.record(x), texts[i].trim().replaceAll("\\s+", " "));
            check.same("wipe(): the text stays", x.wipe(), texts[i].length());
        }
        StreamRefuter x = new StreamRefuter();
        Check.put(x, "7 d -3 0");
        x.record();
        int[] due = {7, StreamRefuter.DROP, -3, 0};
        for (int i = 0; i < 4; i++) {
            check.same("token(" + i + ")", x.token(i), due[i]);
        }
        for (int i : new int[] {-1, 4, 2000, Integer.MAX_VALUE, Integer.MIN_VALUE}) {
            check.same("token(" + i + ")", x.token(i), 0);
        }
        Check.put(x, "1 0 0 ".repeat(150));
        check.same("record() of 900 bytes", x.record(), 150);
        check.same("tokens() of 900 bytes", x.tokens(), 450);
        check.same("token(447)", x.token(447), 1);
    }

    private static void faults(Check check) {
        String[] texts = {"1", "d 1 0", "1 d", "1 d 2", "1 2", "1 2 0", "1 2 0 3", "1 2 d 0", "1 0 d",
            "1 2 0 d 0", "1 d d 0", "1 d 0 0", "1 d 0 d", "01 0 0", "-0 0 0", "10000 0 0", "1 x 0",
            "1 D 0", "1 0 0x", "1 0 0 2 0 -", "5 d 1 +2 0", "1 dd 0", "1 00 0"};
        int[] places = {2, 1, 4, 6, 4, 6, 8, 5, 5,
            7, 5, 8, 7, 1, 1, 1, 3,
            3, 5, 11, 7, 3, 3};
        for (int i = 0; i < texts.length; i++) {
            StreamRefuter x = new StreamRefuter();
            Check.put(x, "4 1 0 2 0");
            x.record();
            Check.put(x, texts[i]);
            check.refuses("record() of " + texts[i], "IllegalArgumentException", x::record);
            check.same("fault() of " + texts[i], x.fault(), places[i]);
            check.same("the old record stays", Check.record(x), "4 1 0 2 0");
        }
        StreamRefuter x = new StreamRefuter();
        Check.put(x, "1 x");
        check.refuses("record()", "IllegalArgumentException", x::record);
        Check.put(x, "1 0 0");
        check.same("record()", x.record(), 1);
        check.same("fault() is 0 behind a good one", x.fault(), 0);
    }

    private static void altering(Check check) {
        StreamRefuter x = new StreamRefuter();
        Check.put(x, "5 2 0 1 2 0");
        x.record();
        int[] good = {0, 1, -1, 9999, -9999, 10000};
        for (int v : good) {
            check.same("alter(1, " + v + ")", x.alter(1, v), true);
            check.same("token(1)", x.token(1), v);
        }
        int[] wrong = {10001, -10000, 20000, 20001, Integer.MAX_VALUE, Integer.MIN_VALUE};
        for (int v : wrong) {
            check.same("alter(1, " + v + ")", x.alter(1, v), false);
            check.same("token(1) stays", x.token(1), 10000);
        }
        for (int i : new int[] {-1, 6, 2000, Integer.MAX_VALUE, Integer.MIN_VALUE}) {
            check.same("alter(" + i + ", 1)", x.alter(i, 1), false);
        }
        check.same("alter(0, 3)", x.alter(0, 3), true);
        check.same("alter(5, 4)", x.alter(5, 4), true);
        check.same("the record", Check.record(x), "3 d 0 1 2 4");
        check.same("tokens()", x.tokens(), 6);
    }

    /** Reading, altering and judging a record leaves marks and ways. */
    private static void leavesTheRest(Check check) {
        StreamRefuter x = Check.with("p cnf 2 4 1 2 0 -1 2 0 1 -2 0 -1 -2 0", "2 0");
        x.refute();
        x.alter(3, 4);
        check.same("judge()", x.judge(), -1);
        Check.put(x, "9 d 0");
        check.same("record()", x.record(), 1);
        check.same("judge()", x.judge(), 0);
        check.same("marks", Check.marks(x), "1 2 3 4 5");
        check.same("ways", Check.ways(x), "1");
        check.same("clauses()", x.clauses(), 5);
        check.same("refute() takes its place", x.refute(), 2);
        check.same("the record", Check.record(x), "5 2 0 1 2 0 5 d 1 2 0 6 0 5 3 4 0");
    }
}
