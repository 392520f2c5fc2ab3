/** Promises 6, 15, 16 and 17, and what RECORD says: records that are read, and their tokens. */
public final class RecordTest {
    private static final String SQUARE = "p cnf 2 4 1 2 0 -1 2 0 1 -2 0 -1 -2 0";
    private static final int[] FAR = {Integer.MAX_VALUE, Integer.MIN_VALUE, 1 << 30, -(1 << 30)};

    public static void main(String[] args) {
        Check check = new Check("RecordTest");
        lines(check);
        row(check);
        becomesTheRecord(check);
        refused(check);
        howManyTokens(check);
        tokenOutside(check);
        altering(check);
        alteringNothing(check);
        alteringByWrongValues(check);
        leavesTheRest(check);
        check.finish();
    }

    private static void lines(Check check) {
        check.about("LINES, each a number, and then either the word d, numbers other than 0, and 0");
        Reading.records(check, "1 d 0", "1", "0 d 0", "1", "-9999 d -5 9999 0", "1",
                "1 d 2 0 3 d 4 0", "2", "d 1 0", "fault 1", "1 d", "fault 4", "1 d 2", "fault 6",
                "1 d d 0", "fault 5", "1 d 2 d 0", "fault 7", "1 d 0 0", "fault 8",
                "1 d 0 d", "fault 7", "1 D 0", "fault 3", "1 dd 0", "fault 3", "1 d 2 x", "fault 7");
        check.about("or numbers other than 0, 0, numbers other than 0, 0");
        Reading.records(check, "", "0", " \n ", "0", "0 0 0", "1", "1 2 0 0", "1", "1 0 2 0", "1",
                "-9999 1 -1 0 3 -4 0 7 d 1 0", "2", "1 0 0 2 0 0 3 0 0", "3",
                "1", "fault 2", "1 2", "fault 4", "1 2 0", "fault 6", "1 2 0 3", "fault 8",
                "1 0 0 0", "fault 8", "1 0 0 0 0", "fault 10", "1 2 d 0", "fault 5",
                "1 0 d", "fault 5", "1 2 0 d 0", "fault 7", "1 2 0 3 d 0", "fault 9",
                "1 x 0", "fault 3", "1 0 0x", "fault 5", "1 0 0 2 0 -", "fault 11");
    }

    private static void row(Check check) {
        check.about("It is kept as a row of TOKENS: its numbers, and 10000 for d.");
        StreamRefuter x = new StreamRefuter();
        Reading.record(x, "7 d -3 9999 0 -9999 4 0 -5 0");
        int[] due = {7, 10000, -3, 9999, 0, -9999, 4, 0, -5, 0};
        check.same("tokens()", x.tokens(), due.length);
        for (int i = 0; i < due.length; i++) {
            check.same("token(" + i + ")", x.token(i), due[i]);
        }
    }

    private static void becomesTheRecord(Check check) {
        check.about("The text becomes the record. Answers how many lines it has.");
        StreamRefuter x = new StreamRefuter();
        String[] texts = {"0 0 0", "5\n2 0\n1 2 0\n\n5 d 1 2 0\n6 0 5 3 4 0\n", "", "1 d 0 1 d 0",
            "1 0 0 ".repeat(150)};
        String[] lines = {"1", "3", "0", "2", "150"};
        for (int i = 0; i < texts.length; i++) {
            // A formula is not needed for this, and what was there is gone.
            check.same("record() of " + texts[i], Reading.record(x, texts[i]), lines[i]);
            check.same("its tokens", String.valueOf(x.tokens()),
                    String.valueOf(texts[i].isEmpty() ? 0 : texts[i].trim().split("\\s+").length));
            check.same("wipe(): the text stays", x.wipe(), texts[i].length());
        }
        StreamRefuter y = Check.with(SQUARE, "2 0");
        y.refute();
        check.same("record() in place of one that was written", Reading.record(y, "9 d 0"), "1");
        check.same("the tokens", Check.record(y), "9 d 0");
        check.same("record() of nothing", Reading.record(y, ""), "0");
        check.same("tokens()", y.tokens(), 0);
        check.same("token(0)", y.token(0), 0);
    }

    private static void refused(Check check) {
        check.about("IllegalArgumentException when it has a fault.");
        for (String text : new String[] {"x", "1", "8 d 1 0 9", "1 0 0 d", "1 0 0 ".repeat(149)
            + "1 0 x"}) {
            StreamRefuter x = Check.with(SQUARE, "2 0");
            x.refute();
            x.alter(3, 4);
            String before = Reading.state(x);
            Check.put(x, text);
            check.refuses("record() of " + text, "IllegalArgumentException", x::record);
            check.same("all as before " + text, Reading.state(x), before);
            check.same("wipe(): the text stays", x.wipe(), text.length());
        }
        StreamRefuter y = new StreamRefuter();
        check.same("record() with a fault at first", Reading.record(y, "4 1 0 2"), "fault 8");
        check.same("tokens()", y.tokens(), 0);
    }

    private static void howManyTokens(Check check) {
        check.about("How many tokens the record has.");
        StreamRefuter x = new StreamRefuter();
        check.same("tokens() of a new object", x.tokens(), 0);
        Reading.record(x, "0 ".repeat(450));
        check.same("tokens() of the longest text", x.tokens(), 450);
        Reading.record(x, "1 d 0");
        check.same("tokens() of one line", x.tokens(), 3);
        StreamRefuter y = Check.with(SQUARE, "2 0");
        check.same("tokens() before refute()", y.tokens(), 0);
        y.refute();
        check.same("tokens() behind refute()", y.tokens(), 17);
    }

    private static void tokenOutside(Check check) {
        check.about("Token i of the record (from 0); 0 if there is none.");
        StreamRefuter x = new StreamRefuter();
        check.same("token(0) of a new object", x.token(0), 0);
        Reading.record(x, "9 8 7 6 0 5 4 0");
        Reading.record(x, "1 d 2 3");
        Reading.record(x, "7 6 0 5 0");
        int[] due = {7, 6, 0, 5, 0};
        for (int i = 0; i < due.length; i++) {
            check.same("token(" + i + ")", x.token(i), due[i]);
        }
        // Behind the last one there is nothing, whatever longer rows had there.
        for (int i : new int[] {-1, -2, 5, 6, 7, 8, 1999, 2000, 2001}) {
            check.same("token(" + i + ")", x.token(i), 0);
        }
        for (int i : FAR) {
            check.same("token(" + i + ")", x.token(i), 0);
        }
    }

    private static void altering(Check check) {
        check.about("Token i of the record becomes v.");
        StreamRefuter x = new StreamRefuter();
        Reading.record(x, "5 2 0 1 2 0");
        int[] good = {0, 1, -1, 9999, -9999, 10000, 9998, -9998};
        for (int v : good) {
            check.same("alter(1, " + v + ")", x.alter(1, v), true);
            check.same("token(1)", x.token(1), v);
        }
        check.same("alter(0, 3)", x.alter(0, 3), true);
        check.same("alter(5, 4)", x.alter(5, 4), true);
        check.same("the record", Check.record(x), "3 -9998 0 1 2 4");
        check.same("tokens()", x.tokens(), 6);
        check.same("alter(5, 4) to what it is", x.alter(5, 4), true);
    }

    private static void alteringNothing(Check check) {
        check.about("False, changing nothing, if there is none");
        StreamRefuter x = new StreamRefuter();
        check.same("alter(0, 1) without tokens", x.alter(0, 1), false);
        check.same("tokens() without tokens", x.tokens(), 0);
        Reading.record(x, "9 8 7 6 0 5 4 0");
        Reading.record(x, "5 2 0 1 2 0");
        for (int i : new int[] {-1, 6, 7, 8, 1999, 2000, 2001}) {
            check.same("alter(" + i + ", 1)", x.alter(i, 1), false);
            check.same("token(" + i + ")", x.token(i), 0);
        }
        for (int i : FAR) {
            check.same("alter(" + i + ", 1)", x.alter(i, 1), false);
        }
        check.same("the record", Check.record(x), "5 2 0 1 2 0");
        check.same("tokens()", x.tokens(), 6);
    }

    private static void alteringByWrongValues(Check check) {
        check.about("or v is neither -9999 .. 9999 nor DROP.");
        StreamRefuter x = new StreamRefuter();
        Reading.record(x, "5 2 0 1 2 0");
        int[] wrong = {10001, -10000, -10001, 20000, 20001, 65536, 1 << 17};
        for (int v : wrong) {
            check.same("alter(1, " + v + ")", x.alter(1, v), false);
            check.same("alter(6, " + v + ")", x.alter(6, v), false);
        }
        for (int v : FAR) {
            check.same("alter(1, " + v + ")", x.alter(1, v), false);
        }
        check.same("the record", Check.record(x), "5 2 0 1 2 0");
        check.same("tokens()", x.tokens(), 6);
    }

    /** Reading, altering and judging a record leaves all else. */
    private static void leavesTheRest(Check check) {
        check.about("(What is judged, altered or read as a record later changes nothing of it;");
        StreamRefuter x = Check.with(SQUARE, "2 0");
        x.refute();
        x.alter(3, 4);
        check.same("judge()", x.judge(), -1);
        check.same("marks behind alter() and judge()", Check.marks(x), "1 2 3 4 5");
        check.same("ways behind alter() and judge()", Check.ways(x), "1");
        check.same("record()", Reading.record(x, "9 d 0"), "1");
        check.same("judge()", x.judge(), 0);
        check.same("marks behind record()", Check.marks(x), "1 2 3 4 5");
        check.same("ways behind record()", Check.ways(x), "1");
        check.same("record() with a fault", Reading.record(x, "9 d 1"), "fault 6");
        check.same("marks behind a fault", Check.marks(x), "1 2 3 4 5");
        check.same("clauses()", x.clauses(), 5);
        check.same("end()", x.end(), 1);
        check.same("refute() takes its place", x.refute(), 2);
        check.same("the record", Check.record(x), "5 2 0 1 2 0 5 d 1 2 0 6 0 5 3 4 0");
    }
}
