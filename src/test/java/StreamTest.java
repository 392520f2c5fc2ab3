/** Promises 5, 7, 8 and 9: streams, plain and packed, and their faults. */
public final class StreamTest {
    public static void main(String[] args) {
        Check check = new Check("StreamTest");
        good(check);
        packedGood(check);
        faults(check);
        packedFaults(check);
        manySteps(check);
        manyClauses(check);
        replaces(check);
        withoutFormula(check);
        check.finish();
    }

    private static void good(Check check) {
        String[] texts = {"", " \n", "0", "1 0", "d 0", "d\n2 1 0\n-2 0", "1 2 3 4 5 6 0 d 3 0"};
        int[] steps = {0, 0, 1, 1, 1, 2, 2};
        int[] clauses = {1, 1, 2, 2, 1, 2, 2};
        for (int i = 0; i < texts.length; i++) {
            StreamRefuter x = Check.with("p cnf 6 1 1 2 0");
            Check.put(x, texts[i]);
            check.same("stream(false) of " + texts[i], x.stream(false), steps[i]);
            check.same("fault()", x.fault(), 0);
            check.same("clauses()", x.clauses(), clauses[i]);
            check.same("way behind the last", x.way(steps[i] + 1), StreamRefuter.NONE);
            check.same("wipe(): the text stays", x.wipe(), texts[i].length());
        }
        StreamRefuter x = Check.with("p cnf 6 1 1 2 0", "d 5 0 -3 4 0 d 1 0 6 0");
        check.same("clauses()", x.clauses(), 3);
        check.same("literal(1, 1)", x.literal(1, 1), 2);
        check.same("literal(2, 0)", x.literal(2, 0), -3);
        check.same("literal(2, 1)", x.literal(2, 1), 4);
        check.same("literal(2, 2)", x.literal(2, 2), 0);
        check.same("literal(3, 0)", x.literal(3, 0), 6);
        check.same("literal(4, 0)", x.literal(4, 0), 0);
    }

    private static void packedGood(Check check) {
        StreamRefuter x = Check.with("p cnf 16 1 1 2 0");
        // -16 is 33, 16 is 32; two bytes do as well as one, for 0 too. 10 and 32 are no gaps here.
        Check.put(x, 97, 33, 2, 0, 100, 0x84, 0, 3, 0x80, 0, 97, 32, 10, 0);
        check.same("stream(true)", x.stream(true), 3);
        check.same("clauses()", x.clauses(), 3);
        check.same("literal(2, 0)", x.literal(2, 0), -16);
        check.same("literal(2, 1)", x.literal(2, 1), 1);
        check.same("literal(3, 0)", x.literal(3, 0), 16);
        check.same("literal(3, 1)", x.literal(3, 1), 5);
        Check.put(x, 97, 0);
        check.same("stream(true) of the empty clause", x.stream(true), 1);
        check.same("end()", x.end(), 1);
        Check.put(x);
        check.same("stream(true) of nothing", x.stream(true), 0);
        Check.put(x, 100, 3, 4, 0);
        check.same("stream(true) of a deletion", x.stream(true), 1);
        check.same("clauses()", x.clauses(), 1);
    }

    private static void faults(Check check) {
        String[] texts = {"1", "1 ", "d", "d 1", "a 1 0", "1 d 0", "1 0 d d 0", "1 2 1 0", "1 -1 0",
            "1 0 7 0", "-7 0", "1 2 3 4 5 6 1 0", "d 1 2 3 4 5 6 -1 0", "01 0", "-0", "1.0 0", "D 1 0",
            "d1 0", "1 0 d -2 2 0", "10000 0", "9999 0", "1 0 x"};
        int[] places = {2, 3, 2, 4, 1, 3, 7, 5, 3,
            5, 1, 13, 15, 1, 1, 1, 1,
            1, 10, 1, 1, 5};
        for (int i = 0; i < texts.length; i++) {
            StreamRefuter x = Check.with("p cnf 6 1 1 2 0", "3 0 4 0");
            Check.put(x, texts[i]);
            check.refuses("stream(false) of " + texts[i], "IllegalArgumentException",
                    () -> x.stream(false));
            check.same("fault() of " + texts[i], x.fault(), places[i]);
            check.same("clauses(): the old stream stays", x.clauses(), 3);
            check.same("literal(3, 0)", x.literal(3, 0), 4);
            check.same("way(2)", x.way(2), 0);
        }
    }

    private static void packedFaults(Check check) {
        int[][] texts = {{98}, {97}, {100}, {97, 2}, {97, 1, 0}, {97, 14, 0}, {97, 15, 0},
            {97, 0x81, 0, 0}, {97, 0x82}, {97, 0x82, 0x80, 0}, {97, 2, 0x82, 1, 0}, {97, 2, 3, 0},
            {97, 2, 4, 6, 8, 10, 12, 2, 0}, {97, 2, 0, 0}, {100, 2, 0x84, 0, 0x83, 0, 0}, {32},
            {97, 2, 0, 97, 0xff, 0x7f, 0}, {97, 2, 0, 10}, {97, 2, 0x80}, {97, 0xff, 0xff},
            {97, 2, 0, 97}, {97, 2, 0, 97, 0x82}, {97, 2, 0, 97, 0x82, 0x90}};
        int[] places = {1, 2, 2, 3, 2, 2, 2,
            2, 3, 2, 3, 3,
            8, 4, 5, 1,
            5, 4, 4, 2,
            5, 6, 5};
        for (int i = 0; i < texts.length; i++) {
            int[] text = texts[i];
            StreamRefuter x = Check.with("p cnf 6 1 1 2 0", "3 0 4 0");
            Check.put(x, text);
            check.refuses("stream(true) " + i, "IllegalArgumentException", () -> x.stream(true));
            check.same("fault() of packed stream " + i, x.fault(), places[i]);
            check.same("clauses(): the old stream stays", x.clauses(), 3);
        }
    }

    /** Eighty steps and no more. */
    private static void manySteps(Check check) {
        StringBuilder row = new StringBuilder();
        int[] packed = new int[243];
        for (int i = 0; i < 81; i++) {
            row.append(i % 4 == 3 ? "d 1 0\n" : "2 0\n");
            packed[3 * i] = i % 4 == 3 ? 100 : 97;
            packed[3 * i + 1] = 4;
        }
        String[] lines = row.toString().split("\n");
        String eighty = String.join("\n", java.util.Arrays.copyOf(lines, 80));
        StreamRefuter x = Check.with("p cnf 2 0");
        Check.put(x, eighty);
        check.same("stream(false) of 80 steps", x.stream(false), 80);
        check.same("clauses()", x.clauses(), 60);
        check.same("way(80)", x.way(80), 0);
        check.same("way(81)", x.way(81), StreamRefuter.NONE);
        check.same("end()", x.end(), StreamRefuter.NONE);
        for (String more : new String[] {"2 0", "d 2 0", "x"}) {
            Check.put(x, eighty + " " + more);
            check.refuses("stream(false) of 81", "IllegalArgumentException", () -> x.stream(false));
            check.same("fault() of 81", x.fault(), eighty.length() + 2);
        }
        Check.put(x, packed);
        check.refuses("stream(true) of 81", "IllegalArgumentException", () -> x.stream(true));
        check.same("fault() of 81 packed", x.fault(), 241);
        Check.put(x, java.util.Arrays.copyOf(packed, 240));
        check.same("stream(true) of 80 steps", x.stream(true), 80);
    }

    /** Clauses up to 63, and deletions behind them. */
    private static void manyClauses(Check check) {
        for (int m = 0; m <= 40; m += 20) {
            StreamRefuter x = Check.with("p cnf 2 " + m + " 1 0".repeat(m));
            String fits = "-2 0 ".repeat(63 - m) + "d 1 0 d 2 0 ";
            Check.put(x, fits);
            check.same("stream(false) up to 63", x.stream(false), 65 - m);
            check.same("clauses()", x.clauses(), 63);
            check.same("literal(63, 0)", x.literal(63, 0), -2);
            check.same("literal(64, 0)", x.literal(64, 0), 0);
            for (String more : new String[] {"-2 0", "0", "x"}) {
                Check.put(x, fits + more);
                check.refuses("64 clauses", "IllegalArgumentException", () -> x.stream(false));
                check.same("fault() at clause 64", x.fault(), fits.length() + 1);
            }
            int[] packed = new int[3 * (64 - m)];
            for (int i = 0; i < 64 - m; i++) {
                packed[3 * i] = 97;
                packed[3 * i + 1] = 5;
            }
            Check.put(x, packed);
            check.refuses("64 packed", "IllegalArgumentException", () -> x.stream(true));
            check.same("fault() at packed clause 64", x.fault(), 3 * (63 - m) + 1);
        }
    }

    /** A new stream forgets what was marked, and leaves the record. */
    private static void replaces(Check check) {
        StreamRefuter x = Check.with("p cnf 2 4 1 2 0 -1 2 0 1 -2 0 -1 -2 0", "2 0");
        check.same("refute()", x.refute(), 2);
        String record = Check.record(x);
        check.same("marks", Check.marks(x), "1 2 3 4 5");
        check.same("ways", Check.ways(x), "1");
        Check.put(x, "2 0 x");
        check.refuses("stream(false)", "IllegalArgumentException", () -> x.stream(false));
        check.same("marks stay with a fault", Check.marks(x), "1 2 3 4 5");
        check.same("ways stay with a fault", Check.ways(x), "1");
        Check.put(x, "2 0 1 0");
        check.same("stream(false)", x.stream(false), 2);
        check.same("marks are gone", Check.marks(x), "");
        check.same("ways are gone", Check.ways(x), "00");
        check.same("the record stays", Check.record(x), record);
        check.same("judge()", x.judge(), 3);
        Check.put(x, "");
        check.same("stream(false) of nothing", x.stream(false), 0);
        check.same("clauses()", x.clauses(), 4);
        check.same("end()", x.end(), StreamRefuter.NONE);
    }

    /** The want of a formula goes before a fault, and leaves fault(). */
    private static void withoutFormula(Check check) {
        StreamRefuter x = new StreamRefuter();
        Check.put(x, "5 d");
        check.refuses("record()", "IllegalArgumentException", x::record);
        check.same("fault()", x.fault(), 4);
        check.refuses("stream(false)", "IllegalStateException", () -> x.stream(false));
        check.same("fault() is left", x.fault(), 4);
        check.refuses("stream(true)", "IllegalStateException", () -> x.stream(true));
        check.same("fault() is left", x.fault(), 4);
    }
}
