import java.util.Arrays;

/** The section 'Terms': the limits of variables, literals, clauses, bytes, words and numbers. */
public final class TermsTest {
    private static final int[] SEVEN_PACKED = {97, 2, 5, 6, 9, 10, 13, 14, 0};

    public static void main(String[] args) {
        Check check = new Check("TermsTest");
        variables(check);
        literals(check);
        differentVariables(check);
        sixLiterals(check);
        emptyClauses(check);
        longestText(check);
        byteValues(check);
        places(check);
        words(check);
        numbers(check);
        check.finish();
    }

    private static void variables(Check check) {
        check.about("V is 1 .. 16");
        Reading.formulas(check, "p cnf 1 0", "0", "p cnf 16 0", "0", "p cnf 0 0", "fault 7",
                "p cnf 17 0", "fault 7", "p cnf -1 0", "fault 7", "p cnf -16 0", "fault 7",
                "p cnf 9999 0", "fault 7", "p cnf 10000 0", "fault 7");
    }

    private static void literals(Check check) {
        check.about("LITERALS are 1 .. V and -1 .. -V");
        for (int v = 1; v <= 16; v++) {
            String head = "p cnf " + v + " 1 ";
            String beyond = "fault " + (head.length() + 1);
            int more = v + 1;
            Reading.formulas(check, head + v + " 0", "1", head + -v + " 0", "1",
                    head + more + " 0", beyond, head + -more + " 0", beyond);
            String alone = "p cnf " + v + " 0";
            Reading.streams(check, alone, v + " 0", "1", -v + " 0", "1", "d " + v + " 0", "1",
                    more + " 0", "fault 1", -more + " 0", "fault 1", "d " + more + " 0", "fault 3",
                    "d " + -more + " 0", "fault 3");
            for (int step : new int[] {97, 100}) {
                String[] dues = {"1", "1", "fault 2", "fault 2"};
                for (int i = 0; i < 4; i++) {
                    check.same("packed number " + (2 * v + i) + " of " + v + " variables",
                            Reading.packed(Check.with(alone), step, 2 * v + i, 0), dues[i]);
                }
            }
            Reading.verdicts(check, alone, "1 " + v + " 0 0", "0", "1 " + -v + " 0 0", "0",
                    "1 " + more + " 0 0", "-1", "1 " + -more + " 0 0", "-1");
        }
    }

    private static void differentVariables(Check check) {
        check.about("A CLAUSE is a row of literals of different variables");
        String head = "p cnf 3 1 ";
        for (String two : new String[] {"1 1", "1 -1", "-1 1", "-1 -1", "3 -3"}) {
            int second = two.indexOf(' ') + 2;
            Reading.formulas(check, head + two + " 0", "fault " + (10 + second));
            Reading.streams(check, "p cnf 3 0", two + " 0", "fault " + second,
                    "d " + two + " 0", "fault " + (2 + second));
            Reading.verdicts(check, "p cnf 3 0", "1 " + two + " 0 0", "-1");
        }
        Reading.formulas(check, head + "1 2 3 0", "1", head + "1 2 -1 0", "fault 15",
                "p cnf 3 2 1 0 -1 0", "2");
        Reading.streams(check, "p cnf 3 0", "-3 2 1 0", "1", "3 2 1 -3 0", "fault 7");
        Reading.verdicts(check, "p cnf 3 0", "1 -3 2 1 0 0", "0", "1 3 2 1 -3 0 0", "-1");
        int[][] packed = {{97, 2, 2, 0}, {97, 2, 3, 0}, {100, 3, 2, 0}, {100, 7, 6, 0}};
        for (int[] text : packed) {
            check.same("packed " + text[1] + " " + text[2],
                    Reading.packed(Check.with("p cnf 3 0"), text), "fault 3");
        }
    }

    private static void sixLiterals(Check check) {
        check.about("at most 6 in formulas and streams");
        String six = "1 -2 3 -4 5 -6 ";
        String alone = "p cnf 16 0";
        Reading.formulas(check, "p cnf 16 1 " + six + "0", "1",
                "p cnf 16 1 " + six + "7 0", "fault 27");
        Reading.streams(check, alone, six + "0", "1", six + "7 0", "fault 16", "d " + six + "0", "1",
                "d " + six + "7 0", "fault 18");
        for (int step : new int[] {97, 100}) {
            int[] seven = SEVEN_PACKED.clone();
            seven[0] = step;
            check.same("seven packed", Reading.packed(Check.with(alone), seven), "fault 8");
            seven[7] = 0;
            check.same("six packed, and a step's byte",
                    Reading.packed(Check.with(alone), seven), "fault 9");
            check.same("six packed", Reading.packed(Check.with(alone),
                    Arrays.copyOf(seven, 8)), "1");
        }
        StreamRefuter x = Check.with("p cnf 16 1 " + six + "0", six + "0");
        check.same("literal(1, 5)", x.literal(1, 5), -6);
        check.same("literal(1, 6)", x.literal(1, 6), 0);
        check.same("literal(2, 5)", x.literal(2, 5), -6);
        check.same("literal(2, 6)", x.literal(2, 6), 0);
        check.about("are the literals of a clause (of any length)");
        Reading.verdicts(check, alone, "1 " + six + "7 0 0", "0",
                "1 1 2 3 4 5 6 7 8 9 10 11 12 13 14 15 16 0 0", "0",
                "1 1 2 3 4 5 6 7 8 9 10 11 12 13 14 15 16 1 0 0", "-1");
    }

    private static void emptyClauses(Check check) {
        check.about("the EMPTY one has none");
        Reading.formulas(check, "p cnf 1 1 0", "1", "p cnf 1 3 0 0 0", "3");
        Reading.streams(check, "p cnf 1 0", "0", "1", "0 0 0", "3", "d 0", "1", "d 0 d 0 0", "3");
        int[][] packed = {{97, 0}, {100, 0}, {97, 128, 0}, {100, 128, 0}};
        for (int[] text : packed) {
            check.same("packed empty clause", Reading.packed(Check.with("p cnf 1 0"), text), "1");
        }
        StreamRefuter x = Check.with("p cnf 2 2 0 1 0", "0 -2 0");
        check.same("clauses()", x.clauses(), 4);
        int[] firsts = {0, 1, 0, -2};
        for (int c = 1; c <= 4; c++) {
            check.same("literal(" + c + ", 0)", x.literal(c, 0), firsts[c - 1]);
        }
    }

    private static void longestText(Check check) {
        check.about("THE TEXT is a row of at most 900 bytes");
        String formula = "p cnf 1 1" + " ".repeat(890);
        Reading.formulas(check, formula + "0", "1", formula + "x", "fault 900",
                formula + " ", "fault 901");
        String steps = "-1 2 0 ".repeat(40) + " ".repeat(619);
        Reading.streams(check, "p cnf 2 0", steps + "0", "41", steps + "x", "fault 900",
                steps + "1", "fault 901");
        Reading.records(check, "0 ".repeat(450), "150", "0 ".repeat(449) + " 0", "150",
                "0 ".repeat(449) + " x", "fault 900", "1 ".repeat(450), "fault 901");
        // Sixty additions of six literals in two bytes each, and the 0 in two bytes, too.
        int[] packed = new int[900];
        for (int i = 0; i < 900; i++) {
            int at = i % 15;
            packed[i] = at == 0 ? 97 : at == 13 ? 128 : at % 2 == 0 ? 0 : 129 + at;
        }
        StreamRefuter x = Check.with("p cnf 6 0");
        check.same("stream(true) of 900 bytes", Reading.packed(x, packed), "60");
        check.same("literal(60, 5)", x.literal(60, 5), 6);
        packed[899] = 128;
        check.same("stream(true) with the last byte wrong", Reading.packed(x, packed), "fault 899");
    }

    private static void byteValues(Check check) {
        check.about("bytes, 0 .. 255");
        StreamRefuter x = Check.with("p cnf 16 0");
        for (int b = 0; b < 256; b++) {
            boolean fits = b >= 130 && b <= 161;
            // 128 is 0 already, so that the next 0 would have to begin a step.
            String due = fits ? "1" : b == 128 ? "fault 4" : b > 1 && b <= 33 ? "fault 4" : b == 0
                    ? "fault 3" : "fault 2";
            check.same("packed number that begins with the byte " + b,
                    Reading.packed(Check.with("p cnf 16 0"), 97, b, 0, 0), due);
            if (fits) {
                Reading.packed(x, 97, b, 0, 0);
                check.same("its literal", x.literal(1, 0), b % 2 == 0 ? (b - 128) / 2
                        : -(b - 129) / 2);
            }
        }
    }

    private static void places(Check check) {
        check.about("its places are 1, 2, ..");
        for (int place = 1; place <= 20; place++) {
            String gap = " ".repeat(place - 1);
            Reading.formulas(check, gap + "x", "fault " + place);
            Reading.records(check, gap + "x", "fault " + place);
        }
        Reading.formulas(check, "", "fault 1");
    }

    private static void words(Check check) {
        check.about("the longest rows of bytes other than 32 and 10");
        for (int b = 0; b < 256; b++) {
            StreamRefuter x = new StreamRefuter();
            Check.put(x, '1', b, '0', ' ', '0');
            boolean gap = b == 32 || b == 10;
            boolean digit = b >= '0' && b <= '9';
            check.same("record() of 1, the byte " + b + ", and 0 0", Reading.outcome(x, x::record),
                    gap ? "1" : digit ? "fault 6" : "fault 1");
        }
        Reading.records(check, " \n\n 12\n3   0\n \n4 0 \n\n", "1", "12 3 04 0", "fault 6");
        StreamRefuter y = new StreamRefuter();
        Reading.record(y, "\n12 \n34\n0 5 0\n");
        check.same("the tokens", Check.record(y), "12 34 0 5 0");
        Reading.formulas(check, "\np\n \ncnf\n1\n\n1  1 \n0", "1", "pcnf 1 0", "fault 1",
                "p cnf1 0", "fault 3");
        Reading.streams(check, "p cnf 12 0", "\n1\n2  0d 0", "fault 7", "\n1\n2  0 d 0", "2");
    }

    private static void numbers(Check check) {
        check.about("A NUMBER is a word, 0, or one to four digits of which the first is not 0, "
                + "perhaps with - in front");
        String[] good = {"0", "1", "9", "10", "90", "99", "100", "999", "1000", "9999", "-1", "-9",
            "-10", "-99", "-100", "-1000", "-9999"};
        for (String word : good) {
            StreamRefuter x = new StreamRefuter();
            check.same("record() of " + word, Reading.record(x, word + " 0 0"), "1");
            check.same("token(0) of " + word, String.valueOf(x.token(0)), word);
        }
        String[] wrong = {"00", "01", "-0", "-00", "-01", "0001", "00001", "10000", "-10000",
            "12345", "-12345", "99999999999", "-", "--1", "+1", "1-", "-1-", "1x", "x1", "1.0", "0x1",
            "1/", ":1", "-x", "-d", "0-", "/", ":"};
        for (String word : wrong) {
            Reading.records(check, word + " 0 0", "fault 1", "1 " + word + " 0 0", "fault 3");
            Reading.streams(check, "p cnf 16 0", word + " 0", "fault 1", "1 " + word + " 0", "fault 3");
            Reading.formulas(check, "p cnf " + word + " 0", "fault 7",
                    "p cnf 16 " + word, "fault 10", "p cnf 16 1 " + word + " 0", "fault 12");
        }
    }
}
