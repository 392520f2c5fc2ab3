import java.util.Arrays;

/** Promise 5, and what STREAM and PACKED say: streams, and those that are refused. */
public final class StreamTest {
    private static final String SQUARE = "p cnf 2 4 1 2 0 -1 2 0 1 -2 0 -1 -2 0";

    public static void main(String[] args) {
        Check check = new Check("StreamTest");
        eightySteps(check);
        kindsOfSteps(check);
        numbering(check);
        upToSixtyThree(check);
        packedSteps(check);
        oneByte(check);
        twoBytes(check);
        packedLiterals(check);
        becomesTheStream(check);
        nothingMarked(check);
        textStays(check);
        faultKeeps(check);
        withoutFormula(check);
        check.finish();
    }

    private static void eightySteps(Check check) {
        check.about("STREAM: at most 80 STEPS");
        String eighty = "2 0 2 0 2 0 d 1 0 ".repeat(20);
        Reading.streams(check, "p cnf 2 0", "", "0", " \n", "0", eighty, "80",
                eighty + " \n ", "80", eighty + "2 0", "fault 361", eighty + "d 2 0", "fault 361",
                eighty + "0", "fault 361", eighty + "x", "fault 361",
                "d 0 ".repeat(80), "80", "d 0 ".repeat(81), "fault 321",
                "d 0 ".repeat(79) + "1 0", "80", "d 0 ".repeat(80) + "1 0", "fault 321");
        int[] packed = new int[162];
        for (int i = 0; i < 162; i += 2) {
            packed[i] = i % 4 == 0 ? 100 : 97;
        }
        StreamRefuter x = Check.with("p cnf 2 0");
        check.same("no packed steps", Reading.packed(x), "0");
        check.same("80 packed steps", Reading.packed(x, Arrays.copyOf(packed, 160)), "80");
        check.same("81 packed steps", Reading.packed(x, packed), "fault 161");
        check.same("a wrong 81st", Reading.packed(x, Arrays.copyOf(packed, 161)), "fault 161");
        check.same("way(80)", x.way(80), 0);
        check.same("way(81)", x.way(81), StreamRefuter.NONE);
    }

    private static void kindsOfSteps(Check check) {
        check.about("each a DELETION (the word d, the literals of a clause, 0) or an ADDITION "
                + "(the literals of a clause, 0)");
        Reading.streams(check, "p cnf 6 1 1 2 0", "0", "1", "1 0", "1", "d 0", "1", "d\n2 1 0\n-2 0",
                "2", "1 2 3 4 5 6 0 d 3 0", "2", "a 1 0", "fault 1", "D 1 0", "fault 1",
                "dd 1 0", "fault 1", "d1 0", "fault 1", "d d 1 0", "fault 3", "1 d 0", "fault 3",
                "1 0 d d 0", "fault 7", "d 1 d 0", "fault 5", "d 1 0 0", "2", "d 1 0 x", "fault 7");
    }

    private static void numbering(Check check) {
        check.about("What the additions add are, in their order, the clauses M + 1, M + 2, ..");
        StreamRefuter x = Check.with("p cnf 6 1 1 2 0", "d 5 0 -3 4 0 d 1 0 6 0 d 6 0 5 0");
        int[] firsts = {0, 1, -3, 6, 5, 0};
        for (int c = 0; c < firsts.length; c++) {
            check.same("literal(" + c + ", 0)", x.literal(c, 0), firsts[c]);
        }
        Reading.formula(x, "p cnf 6 0");
        Reading.stream(x, "-3 4 0 6 0");
        check.same("literal(1, 1) without clauses in the formula", x.literal(1, 1), 4);
        check.same("literal(2, 0) without clauses in the formula", x.literal(2, 0), 6);
    }

    private static void upToSixtyThree(Check check) {
        check.about("up to 63 at most");
        for (int m = 0; m <= 40; m += 8) {
            String formula = "p cnf 2 " + m + " 1 0".repeat(m);
            // Deletions make no room, and do not count.
            String fits = "-2 0 ".repeat(62 - m) + "d -2 0 d 1 0 -2 0 d 2 0 ";
            String beyond = "fault " + (fits.length() + 1);
            Reading.streams(check, formula, fits, String.valueOf(66 - m), fits + "-2 0", beyond,
                    fits + "0", beyond, fits + "x", beyond, fits + "d 0", String.valueOf(67 - m));
            StreamRefuter x = Check.with(formula, fits);
            check.same("clauses()", x.clauses(), 63);
            check.same("literal(63, 0)", x.literal(63, 0), -2);
            check.same("literal(64, 0)", x.literal(64, 0), 0);
            int[] packed = new int[3 * (64 - m)];
            for (int i = 0; i < packed.length; i += 3) {
                packed[i] = 97;
                packed[i + 1] = 5;
            }
            check.same("64 packed", Reading.packed(x, packed), "fault " + (3 * (63 - m) + 1));
            packed[3 * (63 - m)] = 100;
            check.same("63 packed", Reading.packed(x, packed), String.valueOf(64 - m));
        }
    }

    private static void packedSteps(Check check) {
        check.about("A PACKED stream has the byte 100 for the word d, the byte 97 in front of an "
                + "addition's clause");
        for (int b = 0; b < 256; b++) {
            StreamRefuter x = Check.with("p cnf 1 0");
            check.same("step that begins with " + b, Reading.packed(x, b, 2, 0),
                    b == 97 || b == 100 ? "1" : "fault 1");
            check.same("clauses()", x.clauses(), b == 97 ? 1 : 0);
            check.same("second step that begins with " + b,
                    Reading.packed(Check.with("p cnf 1 0"), 97, 0, b, 0),
                    b == 97 || b == 100 ? "2" : "fault 3");
        }
        StreamRefuter x = Check.with("p cnf 16 0");
        // 97 and 100 inside a clause, and the bytes of gaps, are numbers like others.
        check.same("97 as a number", Reading.packed(x, 97, 97, 0), "fault 2");
        check.same("100 as a number", Reading.packed(x, 97, 2, 100, 0), "fault 3");
        check.same("32 and 10 as numbers", Reading.packed(x, 97, 32, 10, 0), "1");
        check.same("literal(1, 0)", x.literal(1, 0), 16);
        check.same("literal(1, 1)", x.literal(1, 1), 5);
        check.same("words", Reading.packed(x, Check.bytes("d 1 0")), "fault 3");
    }

    private static void oneByte(Check check) {
        check.about("a byte below 128 is the number itself");
        for (int b = 0; b < 128; b++) {
            check.same("packed number " + b, Reading.packed(Check.with("p cnf 16 0"), 97, b, 0),
                    b == 0 ? "fault 3" : b >= 2 && b <= 33 ? "1" : "fault 2");
        }
    }

    private static void twoBytes(Check check) {
        check.about("one from 128 on has a byte below 128 behind it, and the number is the first "
                + "less 128 plus 128 times the second");
        for (int b = 0; b < 256; b++) {
            StreamRefuter x = Check.with("p cnf 16 0");
            check.same("130 and " + b, Reading.packed(x, 97, 130, b, 0), b == 0 ? "1" : "fault 2");
            check.same("128 and " + b, Reading.packed(x, 97, 2, 128, b), b == 0 ? "1" : "fault 3");
        }
        // In the middle of a clause, and twice: what follows begins in the right place.
        StreamRefuter y = Check.with("p cnf 16 0");
        check.same("stream(true)", Reading.packed(y, 100, 132, 0, 161, 0, 2, 128, 0, 97, 33, 134, 0,
                0), "2");
        check.same("literal(1, 0)", y.literal(1, 0), -16);
        check.same("literal(1, 1)", y.literal(1, 1), 3);
        int[][] early = {{97, 128}, {97, 130}, {97, 255}, {97, 2, 128}, {97, 2, 130}, {100, 130},
            {97, 2, 0, 97, 130}};
        for (int[] text : early) {
            check.same("without a second byte", Reading.packed(y, text), "fault "
                    + (text.length + 1));
        }
        int[][] wrong = {{97, 130, 128}, {97, 130, 130, 0}, {97, 128, 128, 0}, {97, 255, 255, 0, 0}};
        for (int[] text : wrong) {
            check.same("with a wrong second byte", Reading.packed(y, text), "fault 2");
        }
    }

    private static void packedLiterals(Check check) {
        check.about("Of these numbers 0 is 0, 2 * v is the literal v, and 2 * v + 1 is -v.");
        for (int v = 1; v <= 16; v++) {
            StreamRefuter x = Check.with("p cnf 16 0");
            check.same("stream(true)", Reading.packed(x, 97, 2 * v, 0, 97, 2 * v + 1, 0, 97,
                    2 * v + 128, 0, 128, 0, 97, 2 * v + 129, 0, 0), "4");
            for (int c = 1; c <= 4; c++) {
                check.same("literal(" + c + ", 0)", x.literal(c, 0), c % 2 == 1 ? v : -v);
            }
        }
        // 1 is neither 0 nor a literal.
        StreamRefuter y = Check.with("p cnf 16 0");
        check.same("the number 1", Reading.packed(y, 97, 1, 0), "fault 2");
        check.same("the number 1 in two bytes", Reading.packed(y, 97, 129, 0, 0), "fault 2");
        check.same("the number 1 at a clause's end", Reading.packed(y, 97, 2, 1), "fault 3");
        check.same("the number 1 in a deletion", Reading.packed(y, 100, 1, 0), "fault 2");
    }

    private static void becomesTheStream(Check check) {
        check.about("The text becomes the stream, read as words or as packed, in place of the one "
                + "that was");
        StreamRefuter x = Check.with(SQUARE, "1 0 2 0 d 1 0");
        check.same("clauses()", x.clauses(), 6);
        check.same("another stream", Reading.stream(x, "-2 0"), "1");
        check.same("clauses()", x.clauses(), 5);
        check.same("literal(5, 0)", x.literal(5, 0), -2);
        check.same("way(2)", x.way(2), StreamRefuter.NONE);
        check.same("end()", x.end(), 1);
        check.same("a packed one", Reading.packed(x, 100, 5, 3, 0, 97, 5, 0), "2");
        check.same("literal(5, 0)", x.literal(5, 0), -2);
        check.same("end()", x.end(), 2);
        check.same("a packed one as words", Reading.stream(x, "d\5\3"), "fault 1");
        check.same("an empty one", Reading.stream(x, ""), "0");
        check.same("clauses()", x.clauses(), 4);
        check.same("end()", x.end(), StreamRefuter.NONE);
        check.same("forward()", x.forward(), 0);
        check.about("Answers how many steps it has.");
        Reading.streams(check, SQUARE, "", "0", "d 0", "1", "2 0 d 0 1 0 d 1 0", "4");
    }

    private static void nothingMarked(Check check) {
        check.about("no step is needed, no clause marked then");
        for (String stream : new String[] {"2 0", "2 0 1 0", "", "1 0"}) {
            StreamRefuter x = Check.with(SQUARE, "2 0");
            check.same("refute()", x.refute(), 2);
            String record = Check.record(x);
            check.same("marks", Check.marks(x), "1 2 3 4 5");
            check.same("ways", Check.ways(x), "1");
            Reading.stream(x, stream);
            check.same("marks behind " + stream, Check.marks(x), "");
            check.same("ways behind " + stream, Check.ways(x).replace("0", ""), "");
            check.same("the record is another matter", Check.record(x), record);
            check.same("judge()", x.judge(), 3);
        }
    }

    private static void textStays(Check check) {
        check.about("(The text stays, here and for record();");
        StreamRefuter x = Check.with(SQUARE);
        check.same("stream(false)", Reading.stream(x, "2 0 d 0"), "2");
        check.same("stream(false) again", x.stream(false), 2);
        check.same("wipe()", x.wipe(), 7);
        check.same("stream(true)", Reading.packed(x, 97, 4, 0), "1");
        check.same("stream(true) again", x.stream(true), 1);
        check.same("wipe()", x.wipe(), 3);
        check.same("record()", Reading.record(x, "9 0 0"), "1");
        check.same("record() again", x.record(), 1);
        check.same("stream(false) of the same text", Reading.outcome(x, () -> x.stream(false)),
                "fault 1");
        check.same("wipe()", x.wipe(), 5);
    }

    private static void faultKeeps(Check check) {
        check.about("with a fault all that was read before stays, too.)");
        String[] plain = {"2 0 x", "1", "-1 0 d 3 0", "d 1 0 d", "2 0 ".repeat(60)};
        for (String text : plain) {
            StreamRefuter x = Check.with(SQUARE, "2 0 d 1 0");
            x.refute();
            String before = Reading.state(x);
            Check.put(x, text);
            check.refuses("stream(false) of " + text, "IllegalArgumentException",
                    () -> x.stream(false));
            check.same("all as before " + text, Reading.state(x), before);
            check.same("wipe(): the text stays", x.wipe(), text.length());
            check.same("refute() by the stream that was", x.refute(), 2);
        }
        int[][] packed = {{1}, {97, 2}, {97, 2, 0, 97, 130}, {97, 3, 0, 100, 6, 0}};
        for (int[] text : packed) {
            StreamRefuter x = Check.with(SQUARE, "2 0 d 1 0");
            x.refute();
            String before = Reading.state(x);
            Check.put(x, text);
            check.refuses("stream(true)", "IllegalArgumentException", () -> x.stream(true));
            check.same("all as before", Reading.state(x), before);
            check.same("wipe(): the text stays", x.wipe(), text.length);
        }
        // Without a stream before it, a faulty one makes none.
        StreamRefuter y = Check.with(SQUARE);
        check.same("stream(false)", Reading.stream(y, "2 0 x"), "fault 5");
        check.same("clauses()", y.clauses(), 4);
        check.refuses("end()", "IllegalStateException", y::end);
        check.same("way(1)", y.way(1), StreamRefuter.NONE);
    }

    private static void withoutFormula(Check check) {
        check.about("IllegalStateException when there is no formula; "
                + "IllegalArgumentException when it has a fault.");
        for (String text : new String[] {"", "1 0", "x", "0"}) {
            StreamRefuter x = new StreamRefuter();
            Check.put(x, text);
            check.refuses("stream(false) of " + text, "IllegalStateException",
                    () -> x.stream(false));
            check.refuses("stream(true) of " + text, "IllegalStateException", () -> x.stream(true));
            check.refuses("end() behind it", "IllegalStateException", x::end);
            check.same("wipe(): the text stays", x.wipe(), text.length());
        }
        check.about("Where two exceptions are listed, the first one goes before the other.");
        StreamRefuter y = new StreamRefuter();
        Check.put(y, "x");
        check.refuses("stream(false) of x without a formula", "IllegalStateException",
                () -> y.stream(false));
        check.refuses("stream(true) of x without a formula", "IllegalStateException",
                () -> y.stream(true));
        Reading.formula(y, "p cnf 1 0");
        Check.put(y, "x");
        check.refuses("stream(false) of x with a formula", "IllegalArgumentException",
                () -> y.stream(false));
        check.refuses("stream(true) of x with a formula", "IllegalArgumentException",
                () -> y.stream(true));
    }
}
