/** Promises 13 and 14: which clauses are marked, and how the steps were needed. */
public final class NeededTest {
    private static final String SQUARE = "p cnf 4 4 1 2 0 -1 2 0 1 -2 0 -1 -2 0";
    private static final int[] FAR = {Integer.MAX_VALUE, Integer.MIN_VALUE, 1 << 30, -(1 << 30)};

    public static void main(String[] args) {
        Check check = new Check("NeededTest");
        marks(check);
        noSuchClause(check);
        byThisStream(check);
        writesNone(check);
        notAtAll(check);
        deletions(check);
        behindTheEnd(check);
        impliedOrSpared(check);
        withoutRefuting(check);
        noSuchStep(check);
        check.finish();
    }

    private static void marks(Check check) {
        check.about("Whether clause c is marked behind the latest refuting");
        String[][] runs = {
            {SQUARE, "2 0", "1 2 3 4 5"},
            {SQUARE, "3 0 2 0", "1 2 3 4 6"},
            {"p cnf 2 3 2 0 1 0 -1 0", "2 0 d 1 0", "2 3"},
            {"p cnf 1 1 0", "0", "1"},
            // The number of the empty clause is no mark, be there a clause of that number or not.
            {SQUARE, "1 0 2 0 -2 0", "1 2 3 4 5"},
            {SQUARE, "1 2 0 ".repeat(58) + "2 0", "1 2 3 4 63"},
            {"p cnf 6 5 -3 4 0 5 6 0 4 3 0 -4 -3 0 -4 3 0", "6 4 0 -6 0", "1 3 4 5 6 7"},
        };
        for (String[] run : runs) {
            StreamRefuter x = Check.with(run[0], run[1]);
            check.same("no marks before it", Check.marks(x), "");
            x.refute();
            check.same("the marks of " + run[0] + " with " + run[1], Check.marks(x), run[2]);
        }
    }

    private static void noSuchClause(Check check) {
        StreamRefuter x = Check.with(SQUARE, "2 0 d 1 0");
        x.refute();
        // As shifts, 65 .. 69 and -63 .. -59 would be 1 .. 5.
        for (int c = -70; c <= 70; c++) {
            check.same("marked(" + c + ")", x.marked(c), c >= 1 && c <= 5);
        }
        for (int c : FAR) {
            check.same("marked(" + c + ")", x.marked(c), false);
            check.same("marked(" + (c + 1) + ")", x.marked(c + 1), false);
        }
        check.same("marked(1) of a new object", new StreamRefuter().marked(1), false);
        check.same("marked(1) without a stream", Check.with(SQUARE).marked(1), false);
    }

    private static void byThisStream(Check check) {
        check.about("by this stream that wrote a record");
        StreamRefuter x = Check.with(SQUARE, "2 0");
        check.same("marks before any", Check.marks(x), "");
        x.refute();
        check.same("marks", Check.marks(x), "1 2 3 4 5");
        Reading.stream(x, "2 0");
        check.same("marks by a new stream", Check.marks(x), "");
        check.same("ways by a new stream", Check.ways(x), "0");
        Reading.stream(x, "3 0 2 0");
        x.refute();
        check.same("marks by the next one", Check.marks(x), "1 2 3 4 6");
        check.same("ways by the next one", Check.ways(x), "01");
        Reading.stream(x, "x");
        check.same("marks behind a fault", Check.marks(x), "1 2 3 4 6");
        check.same("ways behind a fault", Check.ways(x), "01");
        Reading.formula(x, SQUARE);
        check.same("marks by no stream", Check.marks(x), "");
        check.same("ways by no stream", Check.ways(x), "");
    }

    private static void writesNone(Check check) {
        check.about("nor does a refuting that writes none.)");
        // It has no end, or it fails behind some marks.
        for (String stream : new String[] {"3 0", "3 0 -3 4 0 -4 0 2 0", "d 1 2 0 2 0"}) {
            StreamRefuter x = Check.with(SQUARE, "2 0");
            x.refute();
            Reading.stream(x, stream);
            check.same("refute() with " + stream, x.refute() <= 0, true);
            check.same("marks with " + stream, Check.marks(x), "");
            check.same("ways with " + stream, Check.ways(x).replace("0", ""), "");
        }
    }

    private static void ways(Check check, String formula, String stream, String due) {
        StreamRefuter x = Check.with(formula, stream);
        check.same("ways before refute()", Check.ways(x), "0".repeat(due.length()));
        check.same("refute()", x.refute() > 0, true);
        check.same("the ways of " + formula + " with " + stream, Check.ways(x), due);
    }

    private static void notAtAll(Check check) {
        check.about("0 not at all");
        ways(check, SQUARE, "3 0 2 0", "01");
        ways(check, SQUARE, "1 2 0 -1 -3 0 2 0", "001");
        check.same("way(1)", Check.with(SQUARE, "3 0 2 0").way(1), 0);
    }

    private static void deletions(Check check) {
        check.about("or a deletion");
        ways(check, SQUARE, "d 3 0 2 0", "01");
        ways(check, SQUARE, "1 2 0 d 1 2 0 2 0 d 2 0", "1010");
    }

    private static void behindTheEnd(Check check) {
        check.about("or behind the end");
        ways(check, SQUARE, "2 0 1 0 -2 0 0", "1000");
        ways(check, "p cnf 1 2 1 0 -1 0", "1 0 -1 0", "00");
        ways(check, "p cnf 1 1 0", "0 d 0", "00");
    }

    private static void impliedOrSpared(Check check) {
        check.about("1 its clause was implied; 2 it was spared.");
        ways(check, SQUARE, "2 0", "1");
        ways(check, "p cnf 5 4 1 -3 0 -1 -2 0 1 3 0 -1 2 0", "-5 0 5 1 0", "21");
        ways(check, "p cnf 4 6 -2 0 4 1 0 -1 4 0 3 1 0 -4 -1 0 -4 1 2 0", "-3 0", "2");
        ways(check, "p cnf 6 5 -3 4 0 5 6 0 4 3 0 -4 -3 0 -4 3 0", "6 4 0 -6 0", "12");
        // Steps and clauses are counted apart: the step 4 adds clause 6.
        ways(check, SQUARE, "d 3 0 1 2 0 d 1 2 0 2 0 1 0", "01010");
        ways(check, SQUARE, "d 0 ".repeat(79) + "2 0", "0".repeat(79) + "1");
        // Clause 63 is one as the others are.
        ways(check, SQUARE, "1 2 0 ".repeat(58) + "2 0", "0".repeat(58) + "1");
        // What was spared in an earlier refuting is implied in a later one, and again.
        StreamRefuter x = Check.with("p cnf 5 4 1 -3 0 -1 -2 0 1 3 0 -1 2 0", "-5 0 5 1 0");
        x.refute();
        x.refute();
        check.same("ways behind two refutings", Check.ways(x), "21");
        Reading.stream(x, "1 0");
        x.refute();
        check.same("ways by the next stream", Check.ways(x), "1");
    }

    private static void withoutRefuting(Check check) {
        check.about("0 without such a refuting");
        StreamRefuter x = Check.with(SQUARE, "2 0 d 1 0");
        check.same("way(1)", x.way(1), 0);
        check.same("way(2)", x.way(2), 0);
        x.end();
        x.forward();
        x.judge();
        check.same("way(1) behind other calls", x.way(1), 0);
        Reading.stream(x, "3 0 d 1 0");
        x.refute();
        check.same("way(1) behind a refuting that wrote none", x.way(1), 0);
    }

    private static void noSuchStep(Check check) {
        check.about("NONE when there is no such step.");
        StreamRefuter x = new StreamRefuter();
        check.same("way(1) of a new object", x.way(1), StreamRefuter.NONE);
        Reading.formula(x, SQUARE);
        check.same("way(1) without a stream", x.way(1), StreamRefuter.NONE);
        Reading.stream(x, "");
        check.same("way(1) of an empty stream", x.way(1), StreamRefuter.NONE);
        Reading.stream(x, "2 0 d 1 0");
        x.refute();
        check.same("way(1)", x.way(1), 1);
        check.same("way(2)", x.way(2), 0);
        for (int s : new int[] {0, -1, -2, 3, 4, 79, 80, 81, 82, 100}) {
            check.same("way(" + s + ")", x.way(s), StreamRefuter.NONE);
        }
        for (int s : FAR) {
            check.same("way(" + s + ")", x.way(s), StreamRefuter.NONE);
        }
        Reading.stream(x, "d 0 ".repeat(80));
        check.same("way(80) of 80", x.way(80), 0);
        check.same("way(81) of 80", x.way(81), StreamRefuter.NONE);
        check.same("way(0) of 80", x.way(0), StreamRefuter.NONE);
        Reading.formula(x, SQUARE);
        check.same("way(1) behind a new formula", x.way(1), StreamRefuter.NONE);
    }
}
