import java.util.ArrayList;
import java.util.Arrays;
import java.util.Collections;
import java.util.List;
import java.util.Random;
import java.util.concurrent.Callable;

/** Holds the program against PlainModel on made-up runs; always the same ones, by seeds. */
public final class ModelTest {
    private final Check check = new Check("ModelTest");
    private final Random random;
    private final StreamRefuter program = new StreamRefuter();
    private final PlainModel model = new PlainModel();
    private int variables = 1;
    private final List<List<Integer>> seen = new ArrayList<>();
    private final List<List<Integer>> merges = new ArrayList<>();
    private final List<List<Integer>> shadowed = new ArrayList<>();
    private int fresh = 0;
    // How often what is rare has come about: a test that never meets it proves nothing.
    private static int[] counts = new int[8];

    private ModelTest(long seed) {
        random = new Random(seed);
    }

    /** Runs as many rounds as the argument says, or some that take seconds. */
    public static void main(String[] args) {
        int rounds = args.length > 0 ? Integer.parseInt(args[0]) : 500;
        int wrong = 0;
        for (int seed = 1; seed <= rounds && wrong < 3; seed++) {
            ModelTest test = new ModelTest(seed);
            // More rounds than one on an object: nothing may be left of the earlier ones.
            for (int i = 0; i < 4; i++) {
                test.round((seed + i) % 3 == 0);
            }
            counts[7] += test.model.bases;
            if (test.check.wrong() > 0) {
                System.out.println("in the round with seed " + seed);
                wrong++;
            }
        }
        System.out.println("refuted " + counts[0] + ", spared steps " + counts[1] + ", failed "
                + counts[2] + ", full " + counts[3] + ", judged above 0 " + counts[4] + ", below "
                + counts[5] + ", faults " + counts[6] + ", bases " + counts[7]);
        for (int i = 0; i < counts.length; i++) {
            if (counts[i] < 3 && i != 3) {
                System.out.println("too few of kind " + i);
                wrong++;
            }
        }
        System.exit(wrong > 0 ? 1 : 0);
    }

    private int below(int n) {
        return random.nextInt(n);
    }

    private Object both(String what, Callable<?> ofProgram, Callable<?> ofModel) {
        Object due = Check.answer(ofModel);
        check.same(what, Check.answer(ofProgram), due);
        return due;
    }

    private void put(String text) {
        put(Check.bytes(text));
    }

    private void put(int... bytes) {
        both("wipe()", () -> program.wipe(), () -> model.wipe());
        for (int i = 0; i < bytes.length; ) {
            int n = Math.min(1 + below(8), bytes.length - i);
            long row = random.nextLong() << 1;
            row = n == 8 ? 0 : row >>> (8 * n) << (8 * n);
            for (int k = 0; k < n; k++) {
                row |= (long) bytes[i + k] << (8 * k);
            }
            long fed = row;
            both("feed", () -> program.feed(n, fed), () -> model.feed(n, fed));
            i += n;
        }
    }

    private void round(boolean wild) {
        both("end()", () -> program.end(), () -> model.end());
        both("tokens()", () -> program.tokens(), () -> model.tokens());
        if (wild) {
            readFormula(below(2) == 0);
        } else {
            readTightFormula();
        }
        both("forward() without a stream", () -> program.forward(), () -> model.forward());
        both("refute() without a stream", () -> program.refute(), () -> model.refute());
        both("way(1) without a stream", () -> program.way(1), () -> model.way(1));
        if (below(4) == 0) {
            spoilReading();
        }
        if (wild) {
            growStream();
        } else {
            splitAndMerge();
        }
        askAll();
        if (below(3) == 0) {
            spoilReading();
            askAll();
        }
        alterAndJudge();
        rereadRecord();
        alterAndJudge();
    }

    private List<Integer> clause(int longest) {
        List<Integer> clause = new ArrayList<>();
        int length = Math.min(1 + below(longest), variables);
        while (clause.size() < length) {
            int v = 1 + below(variables);
            if (!clause.contains(v) && !clause.contains(-v)) {
                clause.add(below(2) == 0 ? v : -v);
            }
        }
        return clause;
    }

    private static String words(List<Integer> clause) {
        StringBuilder row = new StringBuilder();
        for (int literal : clause) {
            row.append(literal).append(' ');
        }
        return row.append("0 ").toString();
    }

    private void readFormula(boolean wild) {
        variables = wild ? 1 + below(16) : 2 + below(5);
        int m = wild ? below(41) : 2 + below(Math.min(35, variables * variables + 8));
        StringBuilder row = new StringBuilder("p cnf " + variables + " " + m + "\n");
        int inUse = variables;
        // A variable or two that the formula does not have leave room for definitions.
        variables = Math.max(1, variables - below(3));
        seen.clear();
        int longest = 2 + below(wild ? 4 : 2);
        for (int i = 0; i < m; i++) {
            seen.add(clause(longest));
            row.append(words(seen.get(i)));
        }
        variables = inUse;
        String text = row.length() > 900 ? "p cnf 16 0" : row.toString().trim();
        put(text);
        both("formula() of " + text, () -> program.formula(), () -> model.formula());
    }

    /**
     * Reads a formula all of whose clauses are needed: the empty clause is split by variables into
     * pairs, again and again. What was split is left in the list of merges, the latest first.
     */
    private void readTightFormula() {
        variables = 4 + below(13);
        int own = 2 + below(Math.min(5, variables - 3));
        seen.clear();
        merges.clear();
        seen.add(new ArrayList<>());
        int splits = 2 + below(14);
        for (int i = 0; i < 60 && merges.size() < splits; i++) {
            List<Integer> clause = seen.get(below(seen.size()));
            int v = 1 + below(own);
            if (clause.contains(v) || clause.contains(-v) || clause.size() > 4) {
                continue;
            }
            seen.remove(clause);
            seen.add(longer(clause, v));
            seen.add(longer(clause, -v));
            merges.add(0, clause);
        }
        for (int i = below(4) == 0 ? below(6) : 0; i > 0; i--) {
            seen.add(below(seen.size() + 1), clause(4));
        }
        shadow();
        Collections.shuffle(seen, random);
        StringBuilder row = new StringBuilder("p cnf " + variables + " " + seen.size() + "\n");
        for (List<Integer> clause : seen) {
            row.append(words(clause));
        }
        put(row.toString());
        both("formula() of " + row, () -> program.formula(), () -> model.formula());
        fresh = own;
    }

    /**
     * Some clauses get pairs beside them, each with their last literal and another one: when the
     * last one is cut off and false, several of the others become true, each for a reason of its
     * own.
     */
    private void shadow() {
        shadowed.clear();
        for (List<Integer> clause : new ArrayList<>(seen)) {
            if (clause.size() > 2 && below(3) == 0 && shadowed.size() < 3) {
                shadowed.add(clause);
                for (int other : clause.subList(0, clause.size() - 1)) {
                    if (seen.size() < 40) {
                        seen.add(new ArrayList<>(List.of(clause.get(clause.size() - 1), other)));
                    }
                }
            }
        }
    }

    /** Cuts the last literal off each clause that has pairs, and deletes it and them. */
    private void cutShadowed(StringBuilder row) {
        for (List<Integer> clause : shadowed) {
            fresh++;
            if (fresh > variables) {
                return;
            }
            int last = clause.get(clause.size() - 1);
            List<Integer> others = new ArrayList<>(clause.subList(0, clause.size() - 1));
            Collections.shuffle(others, random);
            others.add(0, fresh);
            row.append(words(others));
            if (below(2) == 0) {
                List<Integer> copy = new ArrayList<>(others);
                Collections.shuffle(copy, random);
                row.append(words(copy)).append("d ").append(words(others));
            }
            row.append(words(List.of(-fresh, last))).append("d ").append(words(clause));
            for (int other : clause.subList(0, clause.size() - 1)) {
                if (below(8) != 0) {
                    row.append("d ").append(words(List.of(last, other)));
                }
            }
        }
    }

    private List<Integer> longer(List<Integer> clause, int literal) {
        List<Integer> row = new ArrayList<>(clause);
        row.add(below(row.size() + 1), literal);
        return row;
    }

    /** Cuts clauses by fresh variables and deletes them, and then merges what was split. */
    private void splitAndMerge() {
        StringBuilder row = new StringBuilder();
        cutShadowed(row);
        int cuts = below(7);
        for (int i = 0; i < cuts; i++) {
            List<Integer> clause = seen.get(below(seen.size()));
            // Sometimes the variable is not fresh, and the cut may be wrong.
            int x = below(5) == 0 ? 1 + below(variables) : ++fresh;
            if (x > variables || clause.size() > 5 || clause.contains(x) || clause.contains(-x)) {
                continue;
            }
            int sign = below(2) == 0 ? 1 : -1;
            int at = below(clause.size() + 1);
            List<Integer> head = new ArrayList<>(clause.subList(0, at));
            List<Integer> tail = new ArrayList<>(clause.subList(at, clause.size()));
            // What both parts have makes the second one's group longer, or turns it into a base.
            if (at > 0 && below(2) == 0) {
                tail.add(head.get(below(at)));
            }
            // A longer first part is as right, and may have several literals that become true.
            if (head.size() < 5 && below(3) == 0) {
                int more = 1 + below(variables);
                if (more != x && !head.contains(more) && !head.contains(-more)) {
                    head.add(below(2) == 0 ? more : -more);
                }
            }
            head.add(0, sign * x);
            tail.add(0, -sign * x);
            row.append(words(head));
            if (below(3) == 0) {
                // A copy whose first literal is another one takes its place.
                List<Integer> copy = new ArrayList<>(head);
                Collections.shuffle(copy, random);
                row.append(words(copy)).append("d ").append(words(head));
            }
            row.append(words(tail));
            if (below(4) == 0) {
                row.append(words(tail));
            }
            if (below(6) != 0) {
                Collections.shuffle(clause, random);
                row.append("d ").append(words(clause));
            }
            seen.add(head);
            seen.add(tail);
            if (below(3) == 0) {
                row.append(words(clause(3)));
            }
        }
        for (List<Integer> clause : merges) {
            row.append(words(clause));
            if (below(6) == 0) {
                row.append("d ").append(words(seen.get(below(seen.size()))));
            }
        }
        readStream(row.length() > 900 ? "" : row.toString(), below(3) == 0);
    }

    /** Adds steps as long as the text has room: right ones for the most part. */
    private void growStream() {
        put("");
        both("stream(false)", () -> program.stream(false), () -> model.stream(false));
        StringBuilder row = new StringBuilder();
        List<String> steps = new ArrayList<>();
        boolean packed = below(3) == 0;
        int most = below(8) == 0 ? 80 : 5 + below(20);
        int wrongOnes = below(3) == 0 ? 6 : 60;
        for (int tries = 0; tries < 200 && steps.size() < most; tries++) {
            List<Integer> clause;
            String step;
            if (below(7) == 0 && !seen.isEmpty()) {
                clause = new ArrayList<>(seen.get(below(seen.size())));
                Collections.shuffle(clause, random);
                step = "d " + words(clause);
            } else {
                clause = below(90) == 0 ? new ArrayList<>() : clause(1 + below(4));
                if (below(wrongOnes) != 0 && !model.wouldBeRight(clause)) {
                    continue;
                }
                seen.add(clause);
                step = words(clause);
            }
            if (row.length() + step.length() > 900) {
                break;
            }
            row.append(step);
            steps.add(step);
            // The model alone reads what there is so far, to know what would be right next.
            feedModel(row.toString());
            if (Check.answer(() -> model.stream(false)) instanceof String) {
                row.setLength(row.length() - step.length());
                break;
            }
            if (model.end() != -1 && below(3) != 0) {
                break;
            }
        }
        readStream(row.toString(), packed);
    }

    private void feedModel(String text) {
        model.wipe();
        for (int b : Check.bytes(text)) {
            model.feed(1, b);
        }
    }

    private void readStream(String text, boolean packed) {
        program.wipe();
        model.wipe();
        if (packed) {
            put(pack(text));
        } else {
            put(text);
        }
        both("stream(" + packed + ") of " + text, () -> program.stream(packed),
                () -> model.stream(packed));
    }

    private int[] pack(String text) {
        List<Integer> bytes = new ArrayList<>();
        boolean inside = false;
        for (String word : text.trim().split(" ")) {
            if (word.isEmpty()) {
                continue;
            }
            if (word.equals("d")) {
                bytes.add(100);
                inside = true;
                continue;
            }
            if (!inside) {
                bytes.add(97);
            }
            int literal = Integer.parseInt(word);
            int number = literal < 0 ? 1 - 2 * literal : 2 * literal;
            if (below(5) == 0) {
                bytes.add(number + 128);
                bytes.add(0);
            } else {
                bytes.add(number);
            }
            inside = literal != 0;
        }
        return bytes.stream().mapToInt(b -> b).toArray();
    }

    /** Reads something that is likely to have a fault. */
    private void spoilReading() {
        String[] parts = {"p", "cnf", "0", "1", "-1", "2", "-2", "17", "d", "-0", "01", "-",
            "12345", "9999", "-9999", "a", "dd", "3", "41", "0", "0", "\r", "-3", "4 0", "1 0 "};
        StringBuilder row = new StringBuilder(below(3) == 0 ? "p cnf 3 2 " : "");
        for (int i = below(12); i > 0; i--) {
            row.append(parts[below(parts.length)]).append(below(4) == 0 ? "\n\n" : " ");
        }
        int kind = below(4);
        if (kind == 3) {
            int[] bytes = new int[below(20)];
            int[] likely = {97, 100, 0, 2, 3, 4, 128, 130, 0, 5, 97, 0};
            for (int i = 0; i < bytes.length; i++) {
                bytes[i] = below(12) == 0 ? below(256) : likely[below(likely.length)];
            }
            put(bytes);
            note(both("stream(true) of " + Arrays.toString(bytes), () -> program.stream(true),
                    () -> model.stream(true)));
        } else {
            String text = row.toString();
            put(text);
            if (kind == 0 && below(3) == 0) {
                note(both("formula() of " + text, () -> program.formula(), () -> model.formula()));
                both("clauses()", () -> program.clauses(), () -> model.clauses());
            } else if (kind == 1) {
                note(both("stream(false) of " + text, () -> program.stream(false),
                        () -> model.stream(false)));
            } else {
                note(both("record() of " + text, () -> program.record(), () -> model.record()));
            }
        }
        both("fault()", () -> program.fault(), () -> model.fault());
    }

    private void note(Object answer) {
        counts[6] += answer instanceof String ? 1 : 0;
    }

    private void askAll() {
        both("fault()", () -> program.fault(), () -> model.fault());
        both("clauses()", () -> program.clauses(), () -> model.clauses());
        for (int i = 0; i < 6; i++) {
            int c = below(66) - 1;
            int k = below(8) - 1;
            both("literal", () -> program.literal(c, k), () -> model.literal(c, k));
        }
        both("end()", () -> program.end(), () -> model.end());
        both("forward()", () -> program.forward(), () -> model.forward());
        compareRecord();
        Object lines = both("refute()", () -> program.refute(), () -> model.refute());
        if (lines instanceof Integer) {
            int n = (Integer) lines;
            counts[0] += n > 0 ? 1 : 0;
            counts[2] += n < 0 && n > -1000 ? 1 : 0;
            counts[3] += n == -1000 ? 1 : 0;
            if (n > 0) {
                check.same("judging what was written", program.judge() > 0, true);
            }
        }
        compareRecord();
        for (int i = -1; i < 82; i++) {
            int at = i;
            both("marked(" + i + ")", () -> program.marked(at), () -> model.marked(at));
            Object way = both("way(" + i + ")", () -> program.way(at), () -> model.way(at));
            counts[1] += way.equals(2) ? 1 : 0;
        }
        judge();
    }

    private void compareRecord() {
        both("tokens()", () -> program.tokens(), () -> model.tokens());
        for (int i = -1; i <= model.tokens(); i++) {
            int at = i;
            both("token(" + i + ")", () -> program.token(at), () -> model.token(at));
        }
    }

    private void judge() {
        Object verdict = both("judge() of " + Check.record(program), () -> program.judge(),
                () -> model.judge());
        if (verdict instanceof Integer) {
            counts[4] += (Integer) verdict > 0 ? 1 : 0;
            counts[5] += (Integer) verdict < 0 ? 1 : 0;
        }
    }

    private void alterAndJudge() {
        for (int i = 0; i < 25; i++) {
            int at = below(model.tokens() + 2) - 1;
            int old = model.token(at);
            int[] likely = {0, -old, old + 1, old - 1, 10000, 10001, -10000, 1 + below(20),
                -1 - below(20), 9999};
            int v = likely[below(likely.length)];
            both("alter(" + at + ", " + v + ")", () -> program.alter(at, v),
                    () -> model.alter(at, v));
            judge();
            // One change at a time tells more, but some runs keep what they have changed.
            if (below(4) != 0) {
                both("alter back", () -> program.alter(at, old), () -> model.alter(at, old));
            }
        }
    }

    /** Reads a record made of the tokens that there are, with tokens left out, doubled, moved. */
    private void rereadRecord() {
        List<String> row = new ArrayList<>(List.of(Check.record(program).split(" ")));
        for (int i = below(3); i > 0 && row.size() > 1; i--) {
            int at = below(row.size());
            String word = row.get(at);
            if (below(2) == 0) {
                row.remove(at);
            }
            if (below(2) == 0) {
                row.add(below(row.size() + 1), word);
            }
        }
        String text = String.join(below(2) == 0 ? " " : "\n", row);
        if (text.length() <= 900) {
            put(text);
            note(both("record() of " + text, () -> program.record(), () -> model.record()));
            both("fault()", () -> program.fault(), () -> model.fault());
            judge();
        }
    }
}
