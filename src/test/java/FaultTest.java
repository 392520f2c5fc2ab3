import java.util.Arrays;

/** Promise 7, and what FAULT says: where a text has its fault. */
public final class FaultTest {
    private static final String FORMULA = "p cnf 3 2 1 -2 0 3 0";
    private static final String STREAM = "1 -2 0 d 3 0 0";
    private static final String RECORD = "5 1 -2 0 3 4 0 5 d 3 4 0 6 0 0";
    private static final int[] PACKED = {97, 2, 133, 0, 0, 100, 6, 128, 0, 97, 0};

    public static void main(String[] args) {
        Check check = new Check("FaultTest");
        firstWrongWord(check);
        thoseBeforeIt(check);
        firstWrongByte(check);
        tooEarly(check);
        tooEarlyPacked(check);
        beyondV(check);
        sameVariable(check);
        seventh(check);
        eightyFirst(check);
        clauseSixtyFour(check);
        latestReading(check);
        noFault(check);
        wantOfFormula(check);
        check.finish();
    }

    private static String formula(String text) {
        return Reading.formula(new StreamRefuter(), text);
    }

    private static String stream(String text) {
        return Reading.stream(Check.with("p cnf 3 0"), text);
    }

    private static String packed(int... bytes) {
        return Reading.packed(Check.with("p cnf 3 0"), bytes);
    }

    private static String record(String text) {
        return Reading.record(new StreamRefuter(), text);
    }

    /** The text with another word in place of word i, and perhaps with a wrong one at its end. */
    private static String replaced(String text, int i, String word, boolean wrongEnd) {
        String[] words = text.split(" ");
        words[i] = word;
        return String.join("\n ", words) + (wrongEnd ? " %" : "");
    }

    /** The place of word i in such a text. */
    private static int placeOf(String text, int i) {
        String[] words = text.split(" ");
        return String.join("\n ", Arrays.copyOf(words, i)).length() + (i == 0 ? 1 : 3);
    }

    private static void firstWrongWord(Check check) {
        check.about("A text has a FAULT at the first word");
        for (boolean more : new boolean[] {false, true}) {
            for (String word : new String[] {"%", "-0", "12345"}) {
                for (int i = 0; i < FORMULA.split(" ").length; i++) {
                    check.same("formula with " + word + " as word " + i, formula(
                            replaced(FORMULA, i, word, more)), "fault " + placeOf(FORMULA, i));
                }
                for (int i = 0; i < STREAM.split(" ").length; i++) {
                    check.same("stream with " + word + " as word " + i, stream(
                            replaced(STREAM, i, word, more)), "fault " + placeOf(STREAM, i));
                }
                for (int i = 0; i < RECORD.split(" ").length; i++) {
                    check.same("record with " + word + " as word " + i, record(
                            replaced(RECORD, i, word, more)), "fault " + placeOf(RECORD, i));
                }
            }
        }
        check.same("the formula as it is", formula(FORMULA), "2");
        check.same("the stream as it is", stream(STREAM), "3");
        check.same("the record as it is", record(RECORD), "3");
    }

    private static void thoseBeforeIt(Check check) {
        check.about("that cannot stand where it stands, those before it being what they are");
        // Not V or M is wrong then, but what does not go with them.
        Reading.formulas(check, "p cnf 1 1 2 0", "fault 11", "p cnf 1 2 1 0 2 0", "fault 15",
                "p cnf 1 0 1 0", "fault 11", "p cnf 1 1 1 0 -1 0", "fault 15",
                "p cnf 2 1 1 2 0 0", "fault 17", "p cnf 0 41", "fault 7", "p cnf 17 1 1 1 0", "fault 7");
        // A d ends nothing, and a missing 0 is missed where the next word cannot stand.
        Reading.streams(check, "p cnf 3 0", "1 2 d 3 0", "fault 5", "d 1 2 d 3 0", "fault 7",
                "1 2 3 1 0", "fault 7", "1 0 2 3", "fault 8", "1 4 1 0", "fault 3");
        Reading.records(check, "5 1 0 2 d 0", "fault 9", "5 1 2 6 d 1 0", "fault 9",
                "5 d 1 6 d 1 0", "fault 9", "1 0 0 0 d", "fault 10");
    }

    private static void firstWrongByte(Check check) {
        check.about("(in packed streams: at a step's first byte, or the first byte of a number)");
        int[] starts = {0, 1, 2, 4, 5, 6, 7, 9, 10};
        for (int start : starts) {
            // None of these begins a step; 1 is no literal, and the others are beyond V.
            for (int wrong : new int[] {1, 101, 96, 98}) {
                int[] text = PACKED.clone();
                text[start] = wrong;
                check.same("byte " + start + " being " + wrong, packed(text), "fault "
                        + (start + 1));
                int[] longer = Arrays.copyOf(text, text.length + 1);
                longer[text.length] = 1;
                check.same("byte " + start + " and a last one wrong", packed(longer), "fault "
                        + (start + 1));
            }
        }
        // A wrong second byte is a fault at the first one.
        for (int second : new int[] {3, 8}) {
            for (int wrong : new int[] {1, 127, 128, 255}) {
                int[] text = PACKED.clone();
                text[second] = wrong;
                check.same("second byte " + second + " being " + wrong, packed(text), "fault "
                        + second);
            }
        }
        check.same("the packed stream as it is", packed(PACKED), "3");
    }

    private static void tooEarly(Check check) {
        check.about("or one place behind the last byte when it ends too early");
        for (String gap : new String[] {"", " ", "\n", " \n\n "}) {
            tooEarly(check, FORMULA, gap, "8");
            tooEarly(check, STREAM, gap, "2 5 6");
            tooEarly(check, RECORD, gap, "6 11 14");
        }
        Reading.formulas(check, "", "fault 1", " ", "fault 2", "\n\n", "fault 3");
        Reading.streams(check, "p cnf 3 0", "", "0", " \n", "0");
        Reading.records(check, "", "0", " \n", "0");
    }

    /** Cuts a text behind each of its words; it is whole behind those whose places are given. */
    private static void tooEarly(Check check, String whole, String gap, String ends) {
        String[] words = whole.split(" ");
        int good = 0;
        for (int i = 0; i < words.length; i++) {
            String text = String.join(" ", Arrays.copyOf(words, i + 1)) + gap;
            boolean ended = Arrays.asList(ends.split(" ")).contains(String.valueOf(i));
            good += ended ? 1 : 0;
            String got = whole.equals(FORMULA) ? formula(text) : whole.equals(STREAM) ? stream(text)
                    : record(text);
            String due = ended ? String.valueOf(whole.equals(FORMULA) ? 2 : good) : "fault "
                    + (text.length() + 1);
            check.same("reading '" + text + "'", got, due);
        }
    }

    private static void tooEarlyPacked(Check check) {
        int good = 0;
        for (int size = 0; size <= PACKED.length; size++) {
            boolean ended = size == 0 || size == 5 || size == 9 || size == 11;
            good += ended && size > 0 ? 1 : 0;
            check.same("the first " + size + " bytes of a packed stream",
                    packed(Arrays.copyOf(PACKED, size)), ended ? String.valueOf(good) : "fault "
                    + (size + 1));
        }
    }

    private static void beyondV(Check check) {
        check.about("What cannot stand there, too: a literal beyond V");
        Reading.formulas(check, "p cnf 3 1 4 0", "fault 11", "p cnf 3 1 -4 0", "fault 11",
                "p cnf 3 2 3 -2 0 1 16 0", "fault 20", "p cnf 3 1 9999 0", "fault 11",
                "p cnf 16 1 16 -17 0", "fault 15");
        Reading.streams(check, "p cnf 3 0", "4 0", "fault 1", "1 2 -4 0", "fault 5",
                "d 3 4 0", "fault 5", "d -3 -9999 0", "fault 6", "3 0 d 3 0 5 0", "fault 11");
        check.same("packed 4", packed(97, 6, 7, 0), "fault 3");
        check.same("packed 4 as the first", packed(97, 8, 0), "fault 2");
        check.same("packed -4", packed(97, 5, 9, 0), "fault 3");
        check.same("packed -4 of two bytes", packed(100, 5, 137, 0, 0), "fault 3");
        check.same("packed 64", packed(97, 128, 1, 0), "fault 2");
        check.same("the greatest packed number", packed(97, 255, 127, 0), "fault 2");
        // 257 times 2 is 2 again, if only eight bits of it count.
        check.same("packed 257", packed(97, 130, 4, 0), "fault 2");
    }

    private static void sameVariable(Check check) {
        check.about("one of a variable that its clause has already");
        Reading.formulas(check, "p cnf 3 1 3 3 0", "fault 13", "p cnf 3 1 3 -3 0", "fault 13",
                "p cnf 3 2 1 0 -1 2 1 0", "fault 20", "p cnf 3 2 1 0 1 0", "2");
        Reading.streams(check, "p cnf 3 0", "2 2 0", "fault 3", "-2 1 2 0", "fault 6",
                "d 1 -1 0", "fault 5", "1 0 -1 0", "2", "d 1 0 d -1 0", "2");
        check.same("packed 2 and 2", packed(97, 4, 4, 0), "fault 3");
        check.same("packed 2 and -2", packed(97, 4, 5, 0), "fault 3");
        check.same("packed -2, 3 and 2 of two bytes", packed(100, 5, 6, 132, 0, 0), "fault 4");
        check.same("packed 2 and, in another clause, -2", packed(97, 4, 0, 97, 5, 0), "2");
    }

    private static void seventh(Check check) {
        check.about("a seventh one");
        String six = "1 2 3 4 5 6 ";
        Reading.formulas(check, "p cnf 16 1 " + six + "7 0", "fault 24",
                "p cnf 16 1 " + six + "0", "1", "p cnf 16 1 " + six, "fault 24",
                "p cnf 16 1 " + six + "1 0", "fault 24", "p cnf 16 1 " + six + "d 0", "fault 24");
        Reading.streams(check, "p cnf 16 0", six + "-7 0", "fault 13", six + "0", "1",
                "d " + six + "16 0", "fault 15", "d " + six + "0", "1", "7 0 " + six + "8 9 0",
                "fault 17");
        StreamRefuter x = Check.with("p cnf 16 0");
        for (int step : new int[] {97, 100}) {
            check.same("a seventh packed one", Reading.packed(x, step, 2, 4, 6, 8, 10, 12, 14, 0),
                    "fault 8");
            check.same("a seventh one of two bytes",
                    Reading.packed(x, step, 2, 4, 6, 8, 10, 12, 142, 0, 0), "fault 8");
            check.same("six of them", Reading.packed(x, step, 2, 4, 6, 8, 10, 12, 0), "1");
            check.same("six of them and no 0", Reading.packed(x, step, 2, 4, 6, 8, 10, 12),
                    "fault 8");
        }
    }

    private static void eightyFirst(Check check) {
        check.about("the first word (or byte) of an 81st step");
        String eighty = "d 1 0\n".repeat(79) + "1 0  \n";
        for (String more : new String[] {"d 1 0", "1 0", "0", "d", "x", "4 0"}) {
            check.same("an 81st step " + more, stream(eighty + more), "fault "
                    + (eighty.length() + 1));
        }
        check.same("80 steps", stream(eighty), "80");
        int[] packed = new int[2 * 81];
        for (int i = 0; i < packed.length; i += 2) {
            packed[i] = 100;
        }
        for (int b : new int[] {97, 100, 0, 255}) {
            packed[160] = b;
            check.same("an 81st packed step " + b, packed(packed), "fault 161");
        }
        check.same("80 packed steps", packed(Arrays.copyOf(packed, 160)), "80");
    }

    private static void clauseSixtyFour(Check check) {
        check.about("or of an addition that would be clause 64");
        String full = "d 2 0 " + "-2 0 ".repeat(63) + "d 1 0 ";
        for (String more : new String[] {"-2 0", "0", "x", "4 0"}) {
            check.same("clause 64 " + more, stream(full + more), "fault " + (full.length() + 1));
        }
        check.same("63 clauses", stream(full), "65");
        check.same("63 clauses and a deletion", stream(full + "d -2 0"), "66");
        StreamRefuter x = Check.with("p cnf 3 40" + " 1 0".repeat(40));
        check.same("40 + 23 clauses", Reading.stream(x, "0 ".repeat(23)), "23");
        check.same("40 + 24 clauses", Reading.stream(x, "0 ".repeat(24)), "fault 47");
        int[] packed = new int[2 * 64];
        for (int i = 0; i < packed.length; i += 2) {
            packed[i] = 97;
        }
        check.same("64 packed additions", packed(packed), "fault 127");
        check.same("63 packed additions", packed(Arrays.copyOf(packed, 126)), "63");
        packed[126] = 100;
        check.same("63 packed additions and a deletion", packed(packed), "64");
    }

    private static void latestReading(Check check) {
        check.about("The place of the fault that the latest reading (of a formula, a stream or a "
                + "record, and not thrown for want of a formula) met");
        StreamRefuter x = new StreamRefuter();
        check.same("record()", Reading.record(x, "1 2 0 x"), "fault 7");
        check.same("formula()", Reading.formula(x, "p cnf x"), "fault 7");
        check.same("formula() elsewhere", Reading.formula(x, "p x"), "fault 3");
        check.same("formula() without a fault", Reading.formula(x, "p cnf 1 2 1 0 -1 0"), "2");
        check.same("fault()", x.fault(), 0);
        check.same("stream(false)", Reading.stream(x, "1 0 x"), "fault 5");
        check.same("stream(true)", Reading.packed(x, 97, 0, 1), "fault 3");
        check.same("stream(false) without a fault", Reading.stream(x, "1 0"), "1");
        check.same("record() again", Reading.record(x, "1 2"), "fault 4");
        // What is no reading leaves it.
        x.wipe();
        x.feed(1, 'x');
        x.feed(0, 'x');
        x.end();
        x.forward();
        x.refute();
        x.judge();
        x.alter(0, 1);
        x.way(1);
        x.marked(1);
        check.same("fault() behind calls that read nothing", x.fault(), 4);
        check.same("fault() again", x.fault(), 4);
        check.same("record() without a fault", Reading.record(x, "1 d 0"), "1");
        check.same("fault() behind it", x.fault(), 0);
    }

    private static void noFault(Check check) {
        check.about("0 if it met none, or there was none.");
        StreamRefuter x = new StreamRefuter();
        check.same("fault() of a new object", x.fault(), 0);
        Check.put(x, "p x");
        check.same("fault() before the reading", x.fault(), 0);
        String[] good = {"p cnf 2 0", "p cnf 2 2 1 0 2 0"};
        for (String text : good) {
            Reading.formula(x, "x");
            check.same("formula()", Reading.formula(x, text).length(), 1);
            check.same("fault() behind a formula", x.fault(), 0);
        }
        Reading.stream(x, "x");
        Reading.stream(x, "1 0");
        check.same("fault() behind a stream", x.fault(), 0);
        Reading.stream(x, "x");
        Reading.packed(x, 97, 0);
        check.same("fault() behind a packed stream", x.fault(), 0);
        Reading.record(x, "x");
        Reading.record(x, "");
        check.same("fault() behind a record", x.fault(), 0);
    }

    private static void wantOfFormula(Check check) {
        check.about("(stream() without a formula leaves it.)");
        StreamRefuter x = new StreamRefuter();
        Check.put(x, "5 d");
        check.refuses("stream(false) at first", "IllegalStateException", () -> x.stream(false));
        check.same("fault() is left 0", x.fault(), 0);
        check.refuses("record()", "IllegalArgumentException", x::record);
        check.same("fault()", x.fault(), 4);
        check.refuses("stream(false)", "IllegalStateException", () -> x.stream(false));
        check.same("fault() is left", x.fault(), 4);
        check.refuses("stream(true)", "IllegalStateException", () -> x.stream(true));
        check.same("fault() is left", x.fault(), 4);
        // Nor does a text that would be a good stream make it 0.
        Check.put(x, "1 0");
        check.refuses("stream(false)", "IllegalStateException", () -> x.stream(false));
        check.same("fault() is left", x.fault(), 4);
    }
}
