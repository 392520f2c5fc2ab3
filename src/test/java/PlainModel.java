import java.util.ArrayList;
import java.util.Arrays;
import java.util.Collections;
import java.util.HashMap;
import java.util.HashSet;
import java.util.List;
import java.util.Map;
import java.util.Set;
import java.util.TreeMap;
import java.util.TreeSet;

/**
 * The document once more, in its plainest form: lists, sets and recursion, sentence by sentence.
 * The program is held against it; the two share no code.
 */
final class PlainModel {
    private static final int MARK = 10000;

    private final List<Integer> text = new ArrayList<>();
    private int faultPlace = 0;
    private int variables = 0;
    private List<List<Integer>> formula = null;
    private List<Step> steps = null;
    private List<Integer> record = new ArrayList<>();
    private Set<Integer> marks = new HashSet<>();
    private Map<Integer, Integer> ways = new HashMap<>();
    /** How often a spared clause had a base. */
    int bases = 0;

    static final class Step {
        final boolean deletion;
        final List<Integer> clause;

        Step(boolean deletion, List<Integer> clause) {
            this.deletion = deletion;
            this.clause = clause;
        }
    }

    /** Thrown inside a reading, with the place of the fault. */
    private static final class Fault extends Exception {
        private static final long serialVersionUID = 1L;
        final int place;

        Fault(int place) {
            this.place = place;
        }
    }

    boolean feed(int n, long bytes) {
        if (n < 1 || n > 8 || text.size() + n > 900) {
            return false;
        }
        long rest = bytes;
        for (int i = 0; i < n; i++) {
            text.add((int) (rest & 0xff));
            rest >>= 8;
        }
        return true;
    }

    int wipe() {
        int had = text.size();
        text.clear();
        return had;
    }

    // ---- reading ----

    private final class WordRow {
        final List<String> words = new ArrayList<>();
        final List<Integer> places = new ArrayList<>();
        int at = 0;

        WordRow() {
            StringBuilder word = new StringBuilder();
            for (int i = 0; i <= text.size(); i++) {
                boolean gap = i == text.size() || text.get(i) == 32 || text.get(i) == 10;
                if (!gap) {
                    word.append((char) (int) text.get(i));
                } else if (word.length() > 0) {
                    words.add(word.toString());
                    places.add(i - word.length() + 1);
                    word.setLength(0);
                }
            }
        }

        boolean more() {
            return at < words.size();
        }

        int place() {
            return more() ? places.get(at) : text.size() + 1;
        }

        boolean nextIs(String word) {
            return more() && words.get(at).equals(word);
        }

        void expect(String word) throws Fault {
            if (!nextIs(word)) {
                throw new Fault(place());
            }
            at++;
        }

        int number(int low, int high) throws Fault {
            if (!more() || !words.get(at).matches("0|-?[1-9][0-9]{0,3}")) {
                throw new Fault(place());
            }
            int v = Integer.parseInt(words.get(at));
            if (v < low || v > high) {
                throw new Fault(place());
            }
            at++;
            return v;
        }

        List<Integer> clause(int v) throws Fault {
            List<Integer> clause = new ArrayList<>();
            while (true) {
                int place = place();
                int literal = number(-v, v);
                if (literal == 0) {
                    return clause;
                }
                admit(clause, literal, place);
            }
        }
    }

    private static void admit(List<Integer> clause, int literal, int place) throws Fault {
        if (clause.size() == 6 || clause.contains(literal) || clause.contains(-literal)) {
            throw new Fault(place);
        }
        clause.add(literal);
    }

    int formula() {
        try {
            WordRow row = new WordRow();
            row.expect("p");
            row.expect("cnf");
            int v = row.number(1, 16);
            int m = row.number(0, 40);
            List<List<Integer>> clauses = new ArrayList<>();
            for (int i = 0; i < m; i++) {
                clauses.add(row.clause(v));
            }
            if (row.more()) {
                throw new Fault(row.place());
            }
            faultPlace = 0;
            variables = v;
            formula = clauses;
            steps = null;
            marks = new HashSet<>();
            ways = new HashMap<>();
            record = new ArrayList<>();
            return m;
        } catch (Fault f) {
            faultPlace = f.place;
            throw new IllegalArgumentException();
        }
    }

    int stream(boolean packed) {
        if (formula == null) {
            throw new IllegalStateException();
        }
        try {
            List<Step> read = packed ? packedSteps() : plainSteps();
            faultPlace = 0;
            steps = read;
            marks = new HashSet<>();
            ways = new HashMap<>();
            return read.size();
        } catch (Fault f) {
            faultPlace = f.place;
            throw new IllegalArgumentException();
        }
    }

    private void admitStep(List<Step> read, boolean deletion, int place) throws Fault {
        int additions = 0;
        for (Step step : read) {
            additions += step.deletion ? 0 : 1;
        }
        if (read.size() == 80 || (!deletion && formula.size() + additions == 63)) {
            throw new Fault(place);
        }
    }

    private List<Step> plainSteps() throws Fault {
        List<Step> read = new ArrayList<>();
        WordRow row = new WordRow();
        while (row.more()) {
            boolean deletion = row.nextIs("d");
            admitStep(read, deletion, row.place());
            if (deletion) {
                row.at++;
            }
            read.add(new Step(deletion, row.clause(variables)));
        }
        return read;
    }

    private List<Step> packedSteps() throws Fault {
        List<Step> read = new ArrayList<>();
        int[] at = {0};
        while (at[0] < text.size()) {
            int kind = text.get(at[0]);
            if (kind != 97 && kind != 100) {
                throw new Fault(at[0] + 1);
            }
            admitStep(read, kind == 100, at[0] + 1);
            at[0]++;
            List<Integer> clause = new ArrayList<>();
            while (true) {
                int place = at[0] + 1;
                int number = packedNumber(at);
                if (number == 0) {
                    break;
                }
                if (number == 1 || number / 2 > variables) {
                    throw new Fault(place);
                }
                admit(clause, number % 2 == 1 ? -(number / 2) : number / 2, place);
            }
            read.add(new Step(kind == 100, clause));
        }
        return read;
    }

    private int packedNumber(int[] at) throws Fault {
        if (at[0] >= text.size()) {
            throw new Fault(text.size() + 1);
        }
        int first = text.get(at[0]);
        if (first < 128) {
            at[0]++;
            return first;
        }
        if (at[0] + 1 >= text.size()) {
            throw new Fault(text.size() + 1);
        }
        int second = text.get(at[0] + 1);
        if (second >= 128) {
            throw new Fault(at[0] + 1);
        }
        at[0] += 2;
        return first - 128 + 128 * second;
    }

    int record() {
        try {
            List<Integer> read = new ArrayList<>();
            int lines = 0;
            WordRow row = new WordRow();
            while (row.more()) {
                read.add(row.number(-9999, 9999));
                int rows = 2;
                if (row.nextIs("d")) {
                    row.at++;
                    read.add(MARK);
                    rows = 1;
                }
                while (rows > 0) {
                    int v = row.number(-9999, 9999);
                    read.add(v);
                    rows -= v == 0 ? 1 : 0;
                }
                lines++;
            }
            faultPlace = 0;
            record = read;
            return lines;
        } catch (Fault f) {
            faultPlace = f.place;
            throw new IllegalArgumentException();
        }
    }

    int fault() {
        return faultPlace;
    }

    // ---- clauses ----

    /** All clauses by their numbers. */
    private Map<Integer, List<Integer>> numbered() {
        Map<Integer, List<Integer>> all = new TreeMap<>();
        if (formula != null) {
            for (List<Integer> clause : formula) {
                all.put(all.size() + 1, clause);
            }
        }
        if (steps != null) {
            for (Step step : steps) {
                if (!step.deletion) {
                    all.put(all.size() + 1, step.clause);
                }
            }
        }
        return all;
    }

    int clauses() {
        return numbered().size();
    }

    int literal(int c, int k) {
        List<Integer> clause = numbered().get(c);
        return clause == null || k < 0 || k >= clause.size() ? 0 : clause.get(k);
    }

    // ---- propagation ----

    private static final class Spread {
        final Map<Integer, List<Integer>> clauses;
        final Set<Integer> alive;
        final Set<Integer> marked;
        final Set<Integer> trues = new HashSet<>();
        final Map<Integer, Integer> reasons = new HashMap<>();
        final List<Integer> taken = new ArrayList<>();
        int conflict = 0;

        Spread(Map<Integer, List<Integer>> clauses, Set<Integer> alive, Set<Integer> marked) {
            this.clauses = clauses;
            this.alive = alive;
            this.marked = marked;
        }

        boolean ready(int c) {
            int open = 0;
            for (int literal : clauses.get(c)) {
                if (trues.contains(literal)) {
                    return false;
                }
                open += trues.contains(-literal) ? 0 : 1;
            }
            return open <= 1;
        }

        boolean run() {
            while (true) {
                List<Integer> ready = new ArrayList<>();
                List<Integer> readyMarked = new ArrayList<>();
                for (int c : alive) {
                    if (ready(c)) {
                        ready.add(c);
                        if (marked.contains(c)) {
                            readyMarked.add(c);
                        }
                    }
                }
                if (ready.isEmpty()) {
                    return false;
                }
                int c = Collections.min(readyMarked.isEmpty() ? ready : readyMarked);
                taken.add(c);
                Integer gain = null;
                for (int literal : clauses.get(c)) {
                    if (!trues.contains(-literal)) {
                        gain = literal;
                    }
                }
                if (gain == null) {
                    conflict = c;
                    return true;
                }
                trues.add(gain);
                reasons.put(gain, c);
            }
        }

        void needsOf(int literal, Set<Integer> into) {
            Integer reason = reasons.get(literal);
            if (reason != null) {
                into.add(reason);
                for (int other : clauses.get(reason)) {
                    if (other != literal) {
                        needsOf(-other, into);
                    }
                }
            }
        }

        Set<Integer> needsOfConflict() {
            Set<Integer> needs = new HashSet<>();
            needs.add(conflict);
            for (int literal : clauses.get(conflict)) {
                needsOf(-literal, needs);
            }
            return needs;
        }

        /** What a candidate needs, or null if it fails; taken holds what was taken for it, too. */
        Set<Integer> tryCandidate(int candidate, int pivot) {
            for (int literal : clauses.get(candidate)) {
                if (literal != -pivot && trues.contains(literal)) {
                    Set<Integer> needs = new HashSet<>();
                    needsOf(literal, needs);
                    return needs;
                }
            }
            for (int literal : clauses.get(candidate)) {
                if (literal != -pivot && !trues.contains(-literal)) {
                    trues.add(-literal);
                }
            }
            return run() ? needsOfConflict() : null;
        }

        Spread copy() {
            Spread other = new Spread(clauses, alive, marked);
            other.trues.addAll(trues);
            other.reasons.putAll(reasons);
            other.taken.addAll(taken);
            return other;
        }
    }

    private static Spread against(Map<Integer, List<Integer>> clauses, Set<Integer> alive,
            Set<Integer> marked, List<Integer> clause) {
        Spread spread = new Spread(clauses, alive, marked);
        for (int literal : clause) {
            spread.trues.add(-literal);
        }
        return spread;
    }

    private static List<Integer> inOrder(List<Integer> taken, Set<Integer> wanted) {
        List<Integer> row = new ArrayList<>(taken);
        row.retainAll(wanted);
        return row;
    }

    // ---- time ----

    /** Which clause each step adds (above 0) or kills (below 0); 0 if a deletion does nothing. */
    private List<Integer> effects(List<Set<Integer>> aliveAfter) {
        Set<Integer> alive = new TreeSet<>();
        Map<Integer, List<Integer>> all = numbered();
        for (int c = 1; c <= formula.size(); c++) {
            alive.add(c);
        }
        aliveAfter.add(new TreeSet<>(alive));
        int last = formula.size();
        List<Integer> effects = new ArrayList<>();
        for (Step step : steps) {
            int effect = 0;
            if (!step.deletion) {
                last++;
                effect = last;
                alive.add(last);
            } else {
                for (int c : alive) {
                    if (effect == 0 && all.get(c).size() == step.clause.size()
                            && all.get(c).containsAll(step.clause)) {
                        effect = -c;
                    }
                }
                alive.remove(-effect);
            }
            effects.add(effect);
            aliveAfter.add(new TreeSet<>(alive));
        }
        return effects;
    }

    int end() {
        if (steps == null) {
            throw new IllegalStateException();
        }
        List<Set<Integer>> aliveAfter = new ArrayList<>();
        effects(aliveAfter);
        for (int s = 0; s < aliveAfter.size(); s++) {
            if (new Spread(numbered(), aliveAfter.get(s), Set.of()).run()) {
                return s;
            }
        }
        return -1;
    }

    int forward() {
        int end = end();
        int last = end == -1 ? steps.size() : end;
        List<Set<Integer>> aliveAfter = new ArrayList<>();
        effects(aliveAfter);
        for (int s = 1; s <= last; s++) {
            Step step = steps.get(s - 1);
            if (!step.deletion && !isRight(numbered(), aliveAfter.get(s - 1), step.clause)) {
                return s;
            }
        }
        return 0;
    }

    private static boolean isRight(Map<Integer, List<Integer>> clauses, Set<Integer> alive,
            List<Integer> clause) {
        Spread spread = against(clauses, alive, Set.of(), clause);
        if (spread.run()) {
            return true;
        }
        if (clause.isEmpty()) {
            return false;
        }
        for (int c : alive) {
            if (clauses.get(c).contains(-clause.get(0))
                    && spread.copy().tryCandidate(c, clause.get(0)) == null) {
                return false;
            }
        }
        return true;
    }

    /** Whether a clause would be right behind the last step. */
    boolean wouldBeRight(List<Integer> clause) {
        List<Set<Integer>> aliveAfter = new ArrayList<>();
        effects(aliveAfter);
        return isRight(numbered(), aliveAfter.get(aliveAfter.size() - 1), clause);
    }

    // ---- refuting ----

    private static final class Line {
        final int number;
        final List<Integer> clause;
        final List<Integer> hints;

        Line(int number, List<Integer> clause, List<Integer> hints) {
            this.number = number;
            this.clause = clause;
            this.hints = hints;
        }
    }

    int refute() {
        int end = end();
        if (end == -1) {
            return 0;
        }
        List<Set<Integer>> aliveAfter = new ArrayList<>();
        List<Integer> effects = effects(aliveAfter);
        Map<Integer, List<Integer>> all = numbered();
        Set<Integer> alive = new TreeSet<>(aliveAfter.get(end));
        Set<Integer> marked = new HashSet<>();
        Map<Integer, Integer> found = new HashMap<>();
        List<Line> lines = new ArrayList<>();

        int last = formula.size();
        for (int s = 1; s <= end; s++) {
            last = Math.max(last, effects.get(s - 1));
        }
        Spread atEnd = new Spread(all, alive, Set.of());
        atEnd.run();
        marked.addAll(atEnd.needsOfConflict());
        lines.add(new Line(last + 1, List.of(), inOrder(atEnd.taken, atEnd.needsOfConflict())));

        for (int s = end; s >= 1; s--) {
            int effect = effects.get(s - 1);
            if (effect < 0) {
                alive.add(-effect);
            }
            if (effect <= 0) {
                continue;
            }
            alive.remove(effect);
            if (!marked.contains(effect)) {
                continue;
            }
            List<Integer> clause = all.get(effect);
            Spread spread = against(all, alive, new HashSet<>(marked), clause);
            if (spread.run()) {
                marked.addAll(spread.needsOfConflict());
                lines.add(0, new Line(effect, clause, inOrder(spread.taken, spread.needsOfConflict())));
                found.put(s, 1);
                continue;
            }
            List<Integer> hints = sparing(spread, clause, marked);
            if (hints == null) {
                return -s;
            }
            lines.add(0, new Line(effect, clause, hints));
            found.put(s, 2);
        }
        List<Integer> written = write(lines, marked);
        if (written.size() > 2000) {
            return -1000;
        }
        record = written;
        marks = marked;
        ways = found;
        return lines.size();
    }

    private List<Integer> sparing(Spread spread, List<Integer> clause, Set<Integer> marked) {
        if (clause.isEmpty()) {
            return null;
        }
        int pivot = clause.get(0);
        Set<Integer> tried = new HashSet<>();
        Set<Integer> base = new HashSet<>();
        List<Integer> groups = new ArrayList<>();
        while (true) {
            int candidate = 0;
            for (int c : spread.alive) {
                if (candidate == 0 && marked.contains(c) && !tried.contains(c)
                        && spread.clauses.get(c).contains(-pivot)) {
                    candidate = c;
                }
            }
            if (candidate == 0) {
                break;
            }
            tried.add(candidate);
            Spread own = new Spread(spread.clauses, spread.alive, new HashSet<>(marked));
            own.trues.addAll(spread.trues);
            own.reasons.putAll(spread.reasons);
            Set<Integer> needs = own.tryCandidate(candidate, pivot);
            if (needs == null) {
                return null;
            }
            marked.addAll(needs);
            groups.add(-candidate);
            groups.addAll(inOrder(own.taken, needs));
            needs.retainAll(spread.taken);
            base.addAll(needs);
        }
        List<Integer> hints = inOrder(spread.taken, base);
        bases += hints.isEmpty() ? 0 : 1;
        hints.addAll(groups);
        return hints;
    }

    private List<Integer> write(List<Line> lines, Set<Integer> marked) {
        List<Integer> row = new ArrayList<>();
        Set<Integer> unused = new TreeSet<>();
        for (int c = 1; c <= formula.size(); c++) {
            if (!marked.contains(c)) {
                unused.add(c);
            }
        }
        writeDrops(row, formula.size(), unused);
        for (int i = 0; i < lines.size(); i++) {
            Line line = lines.get(i);
            row.add(line.number);
            row.addAll(line.clause);
            row.add(0);
            row.addAll(line.hints);
            row.add(0);
            Set<Integer> drops = new TreeSet<>();
            for (int hint : line.hints) {
                drops.add(Math.abs(hint));
            }
            for (Line later : lines.subList(i + 1, lines.size())) {
                for (int hint : later.hints) {
                    drops.remove(Math.abs(hint));
                }
            }
            if (i < lines.size() - 1) {
                writeDrops(row, line.number, drops);
            }
        }
        return row;
    }

    private static void writeDrops(List<Integer> row, int number, Set<Integer> drops) {
        if (!drops.isEmpty()) {
            row.addAll(Arrays.asList(number, MARK));
            row.addAll(drops);
            row.add(0);
        }
    }

    boolean marked(int c) {
        return marks.contains(c);
    }

    int way(int step) {
        if (steps == null || step < 1 || step > steps.size()) {
            return -1;
        }
        return ways.getOrDefault(step, 0);
    }

    // ---- the record ----

    int tokens() {
        return record.size();
    }

    int token(int i) {
        return i < 0 || i >= record.size() ? 0 : record.get(i);
    }

    boolean alter(int i, int v) {
        if (i < 0 || i >= record.size() || (v != MARK && Math.abs((long) v) > 9999)) {
            return false;
        }
        record.set(i, v);
        return true;
    }

    int judge() {
        if (formula == null) {
            throw new IllegalStateException();
        }
        Map<Integer, List<Integer>> known = new TreeMap<>();
        for (List<Integer> clause : formula) {
            known.put(known.size() + 1, clause);
        }
        int highest = formula.size();
        int at = 0;
        for (int line = 1; at < record.size(); line++) {
            boolean dropping = at + 1 < record.size() && record.get(at + 1) == MARK;
            int behind = at + (dropping ? 2 : 1);
            int zeros = dropping ? 1 : 2;
            while (zeros > 0 && behind < record.size()) {
                zeros -= record.get(behind) == 0 ? 1 : 0;
                behind++;
            }
            List<Integer> tokens = new ArrayList<>(record.subList(at, behind));
            if (dropping) {
                tokens.remove(1);
            }
            if (zeros > 0 || tokens.contains(MARK)) {
                return -line;
            }
            if (dropping) {
                for (int c : tokens.subList(1, tokens.size() - 1)) {
                    if (known.remove(c) == null) {
                        return -line;
                    }
                }
            } else {
                int zero = tokens.subList(1, tokens.size()).indexOf(0) + 1;
                List<Integer> clause = tokens.subList(1, zero);
                List<Integer> hints = tokens.subList(zero + 1, tokens.size() - 1);
                if (tokens.get(0) <= highest || !isClause(clause) || !isGood(known, clause, hints)) {
                    return -line;
                }
                if (clause.isEmpty()) {
                    return line;
                }
                highest = tokens.get(0);
                known.put(highest, clause);
            }
            at = behind;
        }
        return 0;
    }

    private boolean isClause(List<Integer> clause) {
        Set<Integer> seen = new HashSet<>();
        for (int literal : clause) {
            if (literal == 0 || Math.abs(literal) > variables || !seen.add(Math.abs(literal))) {
                return false;
            }
        }
        return true;
    }

    /** 1 when the last of the clauses is the conflict, 0 when there is none, -1 when wrong. */
    private static int follow(Spread spread, List<Integer> hints) {
        for (int i = 0; i < hints.size(); i++) {
            int c = hints.get(i);
            if (!spread.clauses.containsKey(c) || !spread.ready(c)) {
                return -1;
            }
            Integer gain = null;
            for (int literal : spread.clauses.get(c)) {
                gain = spread.trues.contains(-literal) ? gain : Integer.valueOf(literal);
            }
            if (gain == null) {
                return i == hints.size() - 1 ? 1 : -1;
            }
            spread.trues.add(gain);
        }
        return 0;
    }

    private static boolean isGood(Map<Integer, List<Integer>> known, List<Integer> clause,
            List<Integer> hints) {
        List<List<Integer>> rows = new ArrayList<>();
        List<Integer> names = new ArrayList<>();
        rows.add(new ArrayList<>());
        for (int hint : hints) {
            if (hint < 0) {
                names.add(-hint);
                rows.add(new ArrayList<>());
            } else {
                rows.get(rows.size() - 1).add(hint);
            }
        }
        Spread spread = against(known, known.keySet(), Set.of(), clause);
        int first = follow(spread, rows.get(0));
        if (first == -1 || (first == 1 && !names.isEmpty())) {
            return false;
        }
        if (first == 1) {
            return true;
        }
        if (clause.isEmpty()) {
            return false;
        }
        List<Integer> due = new ArrayList<>();
        for (int c : known.keySet()) {
            if (known.get(c).contains(-clause.get(0))) {
                due.add(c);
            }
        }
        List<Integer> sorted = new ArrayList<>(names);
        Collections.sort(sorted);
        if (!sorted.equals(due)) {
            return false;
        }
        for (int i = 0; i < names.size(); i++) {
            if (!isGoodGroup(spread.copy(), clause.get(0), names.get(i), rows.get(i + 1))) {
                return false;
            }
        }
        return true;
    }

    private static boolean isGoodGroup(Spread spread, int pivot, int name, List<Integer> hints) {
        for (int literal : spread.clauses.get(name)) {
            if (literal != -pivot && spread.trues.contains(literal)) {
                return hints.isEmpty();
            }
        }
        for (int literal : spread.clauses.get(name)) {
            if (literal != -pivot) {
                spread.trues.add(-literal);
            }
        }
        return follow(spread, hints) == 1;
    }
}
