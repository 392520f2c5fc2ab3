/**
 * Refutes a formula of clauses by a stream of additions and deletions, going backwards; writes a
 * record of the steps that were needed, with hints; and judges such records.
 *
 * <p>A set of literals is held as an int: bit v - 1 stands for the literal v, bit v + 15 for -v, so
 * that the opposites of a set are the set with its halves swapped. A set of clauses is held as a
 * long: bit c stands for the clause c.
 */
public final class StreamRefuter {
    /** Says that there is no end, or no such step. */
    public static final int NONE = -1;
    /** Says that the record would have too many tokens. */
    public static final int FULL = -1000;
    /** The token for the word d. */
    public static final int DROP = 10000;

    private static final int MAX_BYTES = 900;
    private static final int MAX_VARIABLES = 16;
    private static final int MAX_LITERALS = 6;
    private static final int MAX_FORMULA = 40;
    private static final int MAX_CLAUSE = 63;
    private static final int MAX_STEPS = 80;
    private static final int MAX_TOKENS = 2000;

    // What a reader says in place of a number; all lie beyond every number that can be read.
    private static final int NO_NUMBER = 20000;
    private static final int ENDED = 20001;

    private final Text text;
    private final Words words;
    private final PackedNumbers packedNumbers;
    private final Refuter refuter;
    private final Judge judging;
    // Reading and refuting work on the second one of each pair, so that a failure leaves the first.
    private Problem problem;
    private Problem draft;
    private Tokens kept;
    private Tokens spare;
    private int faultPlace;

    /** Makes an object with an empty text, no formula, no stream and a record without tokens. */
    public StreamRefuter() {
        text = new Text();
        words = new Words(text);
        packedNumbers = new PackedNumbers(text);
        problem = new Problem();
        draft = new Problem();
        kept = new Tokens();
        spare = new Tokens();
        refuter = new Refuter(problem);
        judging = new Judge(kept);
        faultPlace = 0;
    }

    /** Adds the lowest n bytes to the text; false if it may not. */
    public boolean feed(int n, long bytes) {
        return text.append(n, bytes);
    }

    /** Empties the text and answers how many bytes it had. */
    public int wipe() {
        return text.empty();
    }

    /** Reads the text as the formula and answers how many clauses it has. */
    public int formula() throws IllegalArgumentException {
        faultPlace = draft.readFormula(words);
        if (faultPlace != 0) {
            throw new IllegalArgumentException();
        }
        adoptDraft();
        kept.clear();
        return problem.formulaSize;
    }

    /** Reads the text as the stream and answers how many steps it has. */
    public int stream(boolean packed) throws IllegalStateException, IllegalArgumentException {
        if (!problem.hasFormula) {
            throw new IllegalStateException();
        }
        Numbers in = words;
        if (packed) {
            in = packedNumbers;
        }
        faultPlace = draft.readStream(problem, in);
        if (faultPlace != 0) {
            throw new IllegalArgumentException();
        }
        adoptDraft();
        return problem.steps;
    }

    /** Reads the text as the record and answers how many lines it has. */
    public int record() throws IllegalArgumentException {
        faultPlace = spare.readLines(words);
        if (faultPlace != 0) {
            throw new IllegalArgumentException();
        }
        adoptSpare();
        return kept.lines;
    }

    /** The place of the fault that the latest reading met, or 0. */
    public int fault() {
        return faultPlace;
    }

    /** How many clauses the formula and the stream have. */
    public int clauses() {
        return problem.size;
    }

    /** Literal k of clause c, or 0. */
    public int literal(int c, int k) {
        if (c < 1 || c > problem.size || k < 0 || k >= problem.lengths[c]) {
            return 0;
        }
        return problem.literals[c * MAX_LITERALS + k];
    }

    /** The least number of steps after which propagation comes to a conflict, or NONE. */
    public int end() throws IllegalStateException {
        if (!problem.hasStream) {
            throw new IllegalStateException();
        }
        return refuter.findEnd(problem);
    }

    /** The first addition before the end that is not right, or 0. */
    public int forward() throws IllegalStateException {
        if (!problem.hasStream) {
            throw new IllegalStateException();
        }
        return refuter.findWrongStep(problem);
    }

    /** Refutes the formula by the stream and writes the record of that. */
    public int refute() throws IllegalStateException {
        if (!problem.hasStream) {
            throw new IllegalStateException();
        }
        int lines = refuter.goBackwards(problem, spare);
        if (lines > 0) {
            adoptSpare();
        }
        return lines;
    }

    /** Whether clause c is marked. */
    public boolean marked(int c) {
        return c >= 1 && c <= problem.size && holdsClause(problem.marked, c);
    }

    /** How a step was needed: 0 not, 1 implied, 2 spared. */
    public int way(int step) {
        if (step < 1 || step > problem.steps) {
            return NONE;
        }
        int c = problem.added[step];
        if (!holdsClause(problem.marked, c)) {
            return 0;
        }
        return holdsClause(problem.spared, c) ? 2 : 1;
    }

    /** How many tokens the record has. */
    public int tokens() {
        return kept.count;
    }

    /** Token i of the record, or 0. */
    public int token(int i) {
        return kept.at(i);
    }

    /** Puts v in place of token i; false if it may not. */
    public boolean alter(int i, int v) {
        boolean fits = v == DROP || (v >= -9999 && v <= 9999);
        return fits && kept.put(i, v);
    }

    /** Judges the record by the formula. */
    public int judge() throws IllegalStateException {
        if (!problem.hasFormula) {
            throw new IllegalStateException();
        }
        return judging.verdict(problem, kept);
    }

    private void adoptDraft() {
        Problem old = problem;
        problem = draft;
        draft = old;
    }

    private void adoptSpare() {
        Tokens old = kept;
        kept = spare;
        spare = old;
    }

    private static int opposites(int literals) {
        return (literals << MAX_VARIABLES) | (literals >>> MAX_VARIABLES);
    }

    private static int setOf(int literal) {
        return literal > 0 ? 1 << (literal - 1) : 1 << (MAX_VARIABLES - 1 - literal);
    }

    /** Whether a number is a literal whose variable the clause does not have yet. */
    private static boolean canJoin(int number, int clause, int variables) {
        if (number == 0 || number > variables || number < -variables) {
            return false;
        }
        return ((clause | opposites(clause)) & setOf(number)) == 0;
    }

    private static boolean holdsClause(long clauses, int c) {
        return (clauses >>> c & 1L) != 0;
    }

    /** The bytes that are to be read. */
    private static final class Text {
        static final int BEYOND = -1;

        private final int[] bytes = new int[MAX_BYTES];
        private int length = 0;

        boolean append(int n, long low) {
            if (n < 1 || n > 8 || length + n > MAX_BYTES) {
                return false;
            }
            for (int i = 0; i < n; i++) {
                bytes[length + i] = (int) (low >>> (8 * i)) & 255;
            }
            length += n;
            return true;
        }

        int empty() {
            int had = length;
            length = 0;
            return had;
        }

        int size() {
            return length;
        }

        int byteAt(int i) {
            return i >= 0 && i < length ? bytes[i] : BEYOND;
        }
    }

    /** What stands where a step may begin. */
    private enum Opening { NO_MORE, DELETION, ADDITION, WRONG }

    /** Takes the numbers of a text one after the other, and knows where the latest one stands. */
    private abstract static class Numbers {
        final Text text;
        int next = 0;
        int place = 0;
        int value = ENDED;

        Numbers(Text text) {
            this.text = text;
        }

        void restart() {
            next = 0;
        }

        /** Takes the next number: value becomes it, or NO_NUMBER, or ENDED. */
        abstract void advance();

        /** Takes what a step begins with. */
        abstract Opening openStep();

        /** Takes the first number of a step's clause, if openStep() has not done so. */
        abstract void enterClause(Opening opening);
    }

    /** Numbers that are words. The word d counts as DROP. */
    private static final class Words extends Numbers {
        Words(Text text) {
            super(text);
        }

        void advance() {
            while (next < text.size() && isGap(next)) {
                next++;
            }
            int from = next;
            while (next < text.size() && !isGap(next)) {
                next++;
            }
            place = from + 1;
            value = from == next ? ENDED : meaning(from);
        }

        Opening openStep() {
            advance();
            if (value == ENDED) {
                return Opening.NO_MORE;
            }
            return value == DROP ? Opening.DELETION : Opening.ADDITION;
        }

        void enterClause(Opening opening) {
            // The first word of an addition is already the first number of its clause.
            if (opening == Opening.DELETION) {
                advance();
            }
        }

        /** Whether the latest word is this one. */
        boolean spells(String word) {
            int from = place - 1;
            if (next - from != word.length()) {
                return false;
            }
            for (int i = 0; i < word.length(); i++) {
                if (text.byteAt(from + i) != word.charAt(i)) {
                    return false;
                }
            }
            return true;
        }

        private boolean isGap(int i) {
            int b = text.byteAt(i);
            return b == ' ' || b == '\n';
        }

        private int meaning(int from) {
            if (next - from == 1 && text.byteAt(from) == 'd') {
                return DROP;
            }
            boolean below = text.byteAt(from) == '-';
            int first = below ? from + 1 : from;
            if (next - first == 1 && text.byteAt(first) == '0') {
                return below ? NO_NUMBER : 0;
            }
            int size = sizeOfDigits(first);
            return below && size != NO_NUMBER ? -size : size;
        }

        private int sizeOfDigits(int first) {
            int digits = next - first;
            if (digits < 1 || digits > 4 || text.byteAt(first) == '0') {
                return NO_NUMBER;
            }
            int size = 0;
            for (int i = first; i < next; i++) {
                int digit = text.byteAt(i) - '0';
                if (digit < 0 || digit > 9) {
                    return NO_NUMBER;
                }
                size = size * 10 + digit;
            }
            return size;
        }
    }

    /** Numbers of one or two bytes, taken as the literals that they stand for. */
    private static final class PackedNumbers extends Numbers {
        private static final int HALF = 128;

        PackedNumbers(Text text) {
            super(text);
        }

        void advance() {
            int low = text.byteAt(next);
            place = next + 1;
            if (low == Text.BEYOND) {
                value = ENDED;
            } else if (low < HALF) {
                value = meaning(low);
                next++;
            } else {
                takeTwoBytes(low);
            }
        }

        Opening openStep() {
            int b = text.byteAt(next);
            next++;
            place = next;
            if (b == Text.BEYOND) {
                return Opening.NO_MORE;
            }
            if (b == 'd') {
                return Opening.DELETION;
            }
            return b == 'a' ? Opening.ADDITION : Opening.WRONG;
        }

        void enterClause(Opening opening) {
            advance();
        }

        private void takeTwoBytes(int low) {
            int high = text.byteAt(next + 1);
            if (high == Text.BEYOND) {
                place = text.size() + 1;
                value = ENDED;
            } else if (high >= HALF) {
                value = NO_NUMBER;
            } else {
                value = meaning(low - HALF + HALF * high);
                next += 2;
            }
        }

        private static int meaning(int number) {
            // 1 would be the opposite of the literal 0, which there is not.
            if (number == 1) {
                return NO_NUMBER;
            }
            return number % 2 == 0 ? number / 2 : -(number / 2);
        }
    }

    /** A formula and the stream behind it, with what is alive after each step. */
    private static final class Problem {
        boolean hasFormula = false;
        boolean hasStream = false;
        int variables = 0;
        int formulaSize = 0;
        int size = 0;
        int steps = 0;
        // Place 0 of these three belongs to the clause that is being read.
        final int[] literals = new int[(MAX_CLAUSE + 1) * MAX_LITERALS];
        final int[] lengths = new int[MAX_CLAUSE + 1];
        final int[] sets = new int[MAX_CLAUSE + 1];
        // The clause that a step adds, 0 for a deletion.
        final int[] added = new int[MAX_STEPS + 1];
        final long[] alive = new long[MAX_STEPS + 1];
        // What the latest refuting that wrote a record has found.
        long marked = 0;
        long spared = 0;

        /** Reads a formula and answers the place of its fault, or 0. */
        int readFormula(Words in) {
            forgetAll();
            in.restart();
            in.advance();
            if (!in.spells("p")) {
                return in.place;
            }
            in.advance();
            if (!in.spells("cnf")) {
                return in.place;
            }
            in.advance();
            if (in.value < 1 || in.value > MAX_VARIABLES) {
                return in.place;
            }
            variables = in.value;
            in.advance();
            if (in.value < 0 || in.value > MAX_FORMULA) {
                return in.place;
            }
            return readFormulaClauses(in, in.value);
        }

        private int readFormulaClauses(Words in, int wanted) {
            for (int c = 1; c <= wanted; c++) {
                in.advance();
                if (!readClause(in)) {
                    return in.place;
                }
                keepClause();
                alive[0] |= 1L << c;
            }
            in.advance();
            if (in.value != ENDED) {
                return in.place;
            }
            formulaSize = wanted;
            hasFormula = true;
            return 0;
        }

        /** Reads a stream behind the formula of another problem; the place of its fault, or 0. */
        int readStream(Problem other, Numbers in) {
            copyFormula(other);
            in.restart();
            for (int step = 1; step <= MAX_STEPS + 1; step++) {
                Opening opening = in.openStep();
                if (opening == Opening.NO_MORE) {
                    break;
                }
                if (step > MAX_STEPS || !mayOpen(opening)) {
                    return in.place;
                }
                in.enterClause(opening);
                if (!readClause(in)) {
                    return in.place;
                }
                keepStep(step, opening);
            }
            hasStream = true;
            return 0;
        }

        private boolean mayOpen(Opening opening) {
            if (opening == Opening.ADDITION) {
                return size < MAX_CLAUSE;
            }
            return opening == Opening.DELETION;
        }

        private void keepStep(int step, Opening opening) {
            steps = step;
            if (opening == Opening.ADDITION) {
                keepClause();
                added[step] = size;
                alive[step] = alive[step - 1] | 1L << size;
            } else {
                added[step] = 0;
                alive[step] = alive[step - 1] & ~lowestAlike(alive[step - 1], sets[0]);
            }
        }

        /** The lowest of some clauses that has just these literals, as a set; empty if none has. */
        private long lowestAlike(long among, int literalSet) {
            for (int c = 1; c <= size; c++) {
                if (holdsClause(among, c) && sets[c] == literalSet) {
                    return 1L << c;
                }
            }
            return 0;
        }

        /** Reads the clause whose first number was taken last; false at a number that is wrong. */
        private boolean readClause(Numbers in) {
            lengths[0] = 0;
            sets[0] = 0;
            for (int k = 0; k < MAX_LITERALS && in.value != 0; k++) {
                if (!canJoin(in.value, sets[0], variables)) {
                    return false;
                }
                literals[k] = in.value;
                lengths[0] = k + 1;
                sets[0] |= setOf(in.value);
                in.advance();
            }
            return in.value == 0;
        }

        private void keepClause() {
            if (size >= MAX_CLAUSE) {
                return;
            }
            size++;
            lengths[size] = lengths[0];
            sets[size] = sets[0];
            System.arraycopy(literals, 0, literals, size * MAX_LITERALS, MAX_LITERALS);
        }

        private void forgetAll() {
            hasFormula = false;
            hasStream = false;
            variables = 0;
            formulaSize = 0;
            size = 0;
            steps = 0;
            alive[0] = 0;
            marked = 0;
            spared = 0;
        }

        private void copyFormula(Problem other) {
            forgetAll();
            hasFormula = other.hasFormula;
            variables = other.variables;
            formulaSize = other.formulaSize;
            size = other.formulaSize;
            alive[0] = other.alive[0];
            System.arraycopy(other.lengths, 0, lengths, 0, size + 1);
            System.arraycopy(other.sets, 0, sets, 0, size + 1);
            System.arraycopy(other.literals, 0, literals, 0, (size + 1) * MAX_LITERALS);
        }
    }

    /** Makes literals true by ready clauses, and finds which of these clauses something needs. */
    private static final class Propagation {
        private Problem problem;
        private long alive = 0;
        private int truths = 0;
        private int baseTruths = 0;
        // The clauses that made a literal true, in the order in which they were taken, and which.
        final int[] reasons = new int[MAX_VARIABLES + 1];
        private final int[] gains = new int[MAX_VARIABLES + 1];
        private int taken = 0;
        /** How many reasons were taken before any candidate. */
        int baseTaken = 0;
        /** The clause of the conflict, or 0. */
        int conflict = 0;
        /** Which of the reasons are needed: bit i stands for reason i. */
        int needed = 0;

        Propagation(Problem problem) {
            this.problem = problem;
        }

        /** Propagates from some true literals; whether that comes to a conflict. */
        boolean start(Problem problem, long alive, long marked, int truths) {
            this.problem = problem;
            this.alive = alive;
            this.truths = truths;
            taken = 0;
            boolean found = goOn(marked);
            baseTruths = this.truths;
            baseTaken = taken;
            return found;
        }

        /** Whether a candidate does not fail, from where start() has come to. */
        boolean withstands(int candidate, int pivotSet, long marked) {
            truths = baseTruths;
            taken = baseTaken;
            conflict = 0;
            int others = problem.sets[candidate] & ~opposites(pivotSet);
            if ((others & truths) != 0) {
                needed = neededFor(firstTrue(candidate, others));
                return true;
            }
            truths |= opposites(others);
            return goOn(marked);
        }

        private boolean goOn(long marked) {
            while (taken < reasons.length) {
                int c = pickReady(marked);
                if (c == 0) {
                    return false;
                }
                int gain = problem.sets[c] & ~opposites(truths);
                if (gain == 0) {
                    conflict = c;
                    needed = neededFor(opposites(problem.sets[c]));
                    return true;
                }
                reasons[taken] = c;
                gains[taken] = gain;
                taken++;
                truths |= gain;
            }
            return false;
        }

        /** The lowest ready clause that is marked, or else the lowest ready one, or else 0. */
        private int pickReady(long marked) {
            int falses = opposites(truths);
            int lowest = 0;
            for (int c = 1; c <= problem.size; c++) {
                int open = problem.sets[c] & ~falses;
                boolean ready = (open & (open - 1)) == 0 && (open & truths) == 0;
                if (ready && holdsClause(alive, c)) {
                    if (holdsClause(marked, c)) {
                        return c;
                    }
                    lowest = lowest == 0 ? c : lowest;
                }
            }
            return lowest;
        }

        private int neededFor(int literals) {
            int wanted = literals;
            int found = 0;
            for (int i = taken - 1; i >= 0; i--) {
                if ((gains[i] & wanted) != 0) {
                    found |= 1 << i;
                    wanted |= opposites(problem.sets[reasons[i]] & ~gains[i]);
                }
            }
            return found;
        }

        private int firstTrue(int clause, int among) {
            int from = clause * MAX_LITERALS;
            for (int k = 0; k < problem.lengths[clause]; k++) {
                int one = setOf(problem.literals[from + k]);
                if ((one & among & truths) != 0) {
                    return one;
                }
            }
            return 0;
        }
    }

    /** Checks the additions of a stream, forwards and backwards. */
    private static final class Refuter {
        private final Propagation propagation;
        private Problem problem;
        private long marked = 0;
        private long spared = 0;
        private int emptyNumber = 0;
        // The hints of all lines. Those of a line are its groups and then its base, for the base
        // is known only behind the last group; the hints of an implied clause are a base alone.
        private final Tokens notes = new Tokens();
        private final int[] groupsFrom = new int[MAX_CLAUSE + 2];
        private final int[] baseFrom = new int[MAX_CLAUSE + 2];
        private final int[] baseTo = new int[MAX_CLAUSE + 2];
        // The clauses that a line was the first to mark, going backwards: no later line has them.
        private final long[] lastUses = new long[MAX_CLAUSE + 2];

        Refuter(Problem problem) {
            this.problem = problem;
            propagation = new Propagation(problem);
        }

        int findEnd(Problem problem) {
            for (int step = 0; step <= problem.steps; step++) {
                if (propagation.start(problem, problem.alive[step], 0, 0)) {
                    return step;
                }
            }
            return NONE;
        }

        int findWrongStep(Problem problem) {
            int end = findEnd(problem);
            int last = end == NONE ? problem.steps : end;
            for (int step = 1; step <= last; step++) {
                int c = problem.added[step];
                if (c != 0 && !isRight(problem, c, problem.alive[step - 1])) {
                    return step;
                }
            }
            return 0;
        }

        private boolean isRight(Problem problem, int clause, long alive) {
            if (propagation.start(problem, alive, 0, opposites(problem.sets[clause]))) {
                return true;
            }
            if (problem.lengths[clause] == 0) {
                return false;
            }
            int pivotSet = setOf(problem.literals[clause * MAX_LITERALS]);
            for (int c = 1; c <= problem.size; c++) {
                boolean candidate = holdsClause(alive, c)
                        && (problem.sets[c] & opposites(pivotSet)) != 0;
                if (candidate && !propagation.withstands(c, pivotSet, 0)) {
                    return false;
                }
            }
            return true;
        }

        /** Refutes, and writes the record into a row; how many lines it has, or why none. */
        int goBackwards(Problem problem, Tokens into) {
            int end = findEnd(problem);
            if (end == NONE) {
                return 0;
            }
            begin(problem, end);
            for (int step = end; step >= 1; step--) {
                int c = problem.added[step];
                long alive = problem.alive[step - 1];
                if (holdsClause(marked, c) && !noteImplied(c, alive) && !noteSpared(c, alive)) {
                    return -step;
                }
            }
            // Notes that had no room are lost, but with them the record has no room, either.
            int lines = write(into);
            if (into.isOverfull()) {
                return FULL;
            }
            problem.marked = marked;
            problem.spared = spared;
            return lines;
        }

        private void begin(Problem problem, int end) {
            this.problem = problem;
            marked = 0;
            spared = 0;
            notes.clear();
            emptyNumber = problem.formulaSize + 1;
            for (int step = 1; step <= end; step++) {
                emptyNumber += problem.added[step] == 0 ? 0 : 1;
            }
            noteImplied(emptyNumber, problem.alive[end]);
        }

        /** Marks and notes the hints of a clause; false if it is not implied. */
        private boolean noteImplied(int line, long alive) {
            int clause = line == emptyNumber ? 0 : problem.sets[line];
            if (!propagation.start(problem, alive, marked, opposites(clause))) {
                return false;
            }
            long before = marked;
            markNeeded();
            groupsFrom[line] = notes.count;
            baseFrom[line] = notes.count;
            noteReasons(propagation.needed);
            noteConflict();
            baseTo[line] = notes.count;
            lastUses[line] = marked & ~before;
            return true;
        }

        /** Marks and notes base and groups of a clause that is not implied; false if not spared. */
        private boolean noteSpared(int line, long alive) {
            if (problem.lengths[line] == 0) {
                return false;
            }
            long before = marked;
            int pivotSet = setOf(problem.literals[line * MAX_LITERALS]);
            int inBase = (1 << propagation.baseTaken) - 1;
            int base = 0;
            long tried = 0;
            groupsFrom[line] = notes.count;
            for (int turn = 1; turn <= MAX_CLAUSE; turn++) {
                int candidate = pickCandidate(alive & marked & ~tried, opposites(pivotSet));
                if (candidate == 0) {
                    break;
                }
                if (!propagation.withstands(candidate, pivotSet, marked)) {
                    return false;
                }
                tried |= 1L << candidate;
                markNeeded();
                notes.add(-candidate);
                noteReasons(propagation.needed & ~inBase);
                noteConflict();
                base |= propagation.needed & inBase;
            }
            baseFrom[line] = notes.count;
            noteReasons(base);
            baseTo[line] = notes.count;
            lastUses[line] = marked & ~before;
            spared |= 1L << line;
            return true;
        }

        private int pickCandidate(long among, int wanted) {
            for (int c = 1; c <= problem.size; c++) {
                if (holdsClause(among, c) && (problem.sets[c] & wanted) != 0) {
                    return c;
                }
            }
            return 0;
        }

        private void markNeeded() {
            for (int i = 0; i < propagation.reasons.length; i++) {
                if ((propagation.needed >>> i & 1) != 0) {
                    marked |= 1L << propagation.reasons[i];
                }
            }
            if (propagation.conflict != 0) {
                marked |= 1L << propagation.conflict;
            }
        }

        private void noteReasons(int places) {
            for (int i = 0; i < propagation.reasons.length; i++) {
                if ((places >>> i & 1) != 0) {
                    notes.add(propagation.reasons[i]);
                }
            }
        }

        private void noteConflict() {
            if (propagation.conflict != 0) {
                notes.add(propagation.conflict);
            }
        }

        private int write(Tokens into) {
            into.clear();
            writeDrops(into, problem.formulaSize, problem.alive[0] & ~marked);
            int lines = 1;
            for (int c = problem.formulaSize + 1; c < emptyNumber; c++) {
                if (holdsClause(marked, c)) {
                    writeLine(into, c, problem.lengths[c]);
                    writeDrops(into, c, lastUses[c]);
                    lines++;
                }
            }
            // An addition behind the end may bear this number, too: its literals are not these.
            writeLine(into, emptyNumber, 0);
            return lines;
        }

        private void writeLine(Tokens into, int number, int length) {
            into.add(number);
            for (int k = 0; k < length; k++) {
                into.add(problem.literals[number * MAX_LITERALS + k]);
            }
            into.add(0);
            into.addPart(notes, baseFrom[number], baseTo[number]);
            into.addPart(notes, groupsFrom[number], baseFrom[number]);
            into.add(0);
        }

        private void writeDrops(Tokens into, int number, long dropped) {
            if (dropped == 0) {
                return;
            }
            into.add(number);
            into.add(DROP);
            for (int c = 1; c <= problem.size; c++) {
                if (holdsClause(dropped, c)) {
                    into.add(c);
                }
            }
            into.add(0);
        }
    }

    /** A row of tokens. What it has no room for is counted, but not kept. */
    private static final class Tokens {
        // The parts of a line: what the next token of it is to be.
        private static final int NUMBER = 0;
        private static final int DROP_OR_LITERAL = 1;
        private static final int LITERAL = 2;
        private static final int LAST_ROW = 3;

        private final int[] row = new int[MAX_TOKENS];
        int count = 0;
        int lines = 0;

        void clear() {
            count = 0;
            lines = 0;
        }

        void add(int v) {
            if (count < MAX_TOKENS) {
                row[count] = v;
            }
            count++;
        }

        void addPart(Tokens other, int from, int to) {
            for (int i = from; i < to; i++) {
                add(other.at(i));
            }
        }

        boolean isOverfull() {
            return count > MAX_TOKENS;
        }

        int at(int i) {
            return i >= 0 && i < count && i < MAX_TOKENS ? row[i] : 0;
        }

        boolean put(int i, int v) {
            if (i < 0 || i >= count || i >= MAX_TOKENS) {
                return false;
            }
            row[i] = v;
            return true;
        }

        /** Reads the lines of a record and answers the place of its fault, or 0. */
        int readLines(Words in) {
            clear();
            in.restart();
            int part = NUMBER;
            for (int word = 1; word <= MAX_BYTES; word++) {
                in.advance();
                if (in.value == ENDED) {
                    break;
                }
                if (!canStand(part, in.value)) {
                    return in.place;
                }
                add(in.value);
                part = partBehind(part, in.value);
                lines += part == NUMBER ? 1 : 0;
            }
            return part == NUMBER ? 0 : in.place;
        }

        /** The place behind the line that begins at a place, or NONE if no line does. */
        int lineEnd(int from) {
            int part = NUMBER;
            for (int i = from; i < count; i++) {
                if (!canStand(part, at(i))) {
                    return NONE;
                }
                part = partBehind(part, at(i));
                if (part == NUMBER) {
                    return i + 1;
                }
            }
            return NONE;
        }

        private static boolean canStand(int part, int v) {
            return v == DROP ? part == DROP_OR_LITERAL : v != NO_NUMBER;
        }

        private static int partBehind(int part, int v) {
            if (part == NUMBER) {
                return DROP_OR_LITERAL;
            }
            if (part == LAST_ROW) {
                return v == 0 ? NUMBER : LAST_ROW;
            }
            return v == 0 || v == DROP ? LAST_ROW : LITERAL;
        }
    }

    /** Follows the lines of a record. */
    private static final class Judge {
        // A line that makes a clause known has a literal, so it has four tokens at least.
        private static final int MAX_KNOWN = MAX_FORMULA + MAX_TOKENS / 4;

        // The clauses that are known or were: their numbers rise.
        private final int[] numbers = new int[MAX_KNOWN];
        private final int[] sets = new int[MAX_KNOWN];
        private final boolean[] known = new boolean[MAX_KNOWN];
        private final int[] namedByLine = new int[MAX_KNOWN];
        private int count = 0;
        private int variables = 0;
        private int highest = 0;
        private Tokens tokens;
        // The literals of the line's clause, the token that is to be followed next, what is true
        // by then, and whether the latest clause that was followed was a conflict.
        private int clause = 0;
        private int next = 0;
        private int truths = 0;
        private boolean conflict = false;

        Judge(Tokens tokens) {
            this.tokens = tokens;
        }

        int verdict(Problem problem, Tokens tokens) {
            begin(problem, tokens);
            int from = 0;
            for (int line = 1; line <= MAX_TOKENS && from < tokens.count; line++) {
                int to = tokens.lineEnd(from);
                if (to == NONE) {
                    return -line;
                }
                if (tokens.at(from + 1) == DROP) {
                    if (!dropAll(from + 2)) {
                        return -line;
                    }
                } else if (!isGood(from, line)) {
                    return -line;
                } else if (tokens.at(from + 1) == 0) {
                    return line;
                }
                from = to;
            }
            return 0;
        }

        private void begin(Problem problem, Tokens tokens) {
            this.tokens = tokens;
            variables = problem.variables;
            count = 0;
            for (int c = 1; c <= problem.formulaSize; c++) {
                learn(c, problem.sets[c]);
            }
            highest = problem.formulaSize;
        }

        private void learn(int number, int set) {
            if (count < MAX_KNOWN) {
                numbers[count] = number;
                sets[count] = set;
                known[count] = true;
                namedByLine[count] = 0;
                count++;
            }
        }

        private boolean dropAll(int from) {
            for (int i = from; i < tokens.count && tokens.at(i) != 0; i++) {
                int place = find(tokens.at(i));
                if (place == NONE) {
                    return false;
                }
                known[place] = false;
            }
            return true;
        }

        /** Whether a line that is not dropping is good; its clause is known then. */
        private boolean isGood(int from, int line) {
            int number = tokens.at(from);
            next = from + 1;
            if (number <= highest || !readClause()) {
                return false;
            }
            truths = opposites(clause);
            if (!followRow()) {
                return false;
            }
            if (conflict ? tokens.at(next) != 0 : !isSpared(tokens.at(from + 1), line)) {
                return false;
            }
            highest = number;
            learn(number, clause);
            return true;
        }

        /** Takes the literals of a line and the 0 behind them; false if they are no clause. */
        private boolean readClause() {
            clause = 0;
            for (; next < tokens.count && tokens.at(next) != 0; next++) {
                if (!canJoin(tokens.at(next), clause, variables)) {
                    return false;
                }
                clause |= setOf(tokens.at(next));
            }
            next++;
            return true;
        }

        /** Follows the numbers above 0 that come next, a conflict being at the last of them. */
        private boolean followRow() {
            conflict = false;
            for (; next < tokens.count && tokens.at(next) > 0; next++) {
                if (conflict || !follow(find(tokens.at(next)))) {
                    return false;
                }
            }
            return true;
        }

        /** Takes a clause; false if it is not known or not ready. */
        private boolean follow(int place) {
            if (place == NONE) {
                return false;
            }
            int open = sets[place] & ~opposites(truths);
            if ((open & (open - 1)) != 0 || (open & truths) != 0) {
                return false;
            }
            truths |= open;
            conflict = open == 0;
            return true;
        }

        /** Follows names and what is behind them; pivot is 0 if the clause is empty. */
        private boolean isSpared(int pivot, int line) {
            if (pivot == 0) {
                return false;
            }
            int wanted = setOf(-pivot);
            int missing = howManyHave(wanted);
            int before = truths;
            while (next < tokens.count && tokens.at(next) < 0) {
                int place = find(-tokens.at(next));
                next++;
                if (place == NONE || namedByLine[place] == line || (sets[place] & wanted) == 0) {
                    return false;
                }
                namedByLine[place] = line;
                missing--;
                if (!withstands(sets[place] & ~wanted)) {
                    return false;
                }
                truths = before;
            }
            return missing == 0;
        }

        private boolean withstands(int others) {
            if ((others & truths) != 0) {
                return tokens.at(next) <= 0;
            }
            truths |= opposites(others);
            return followRow() && conflict;
        }

        private int howManyHave(int wanted) {
            int many = 0;
            for (int i = 0; i < count; i++) {
                many += known[i] && (sets[i] & wanted) != 0 ? 1 : 0;
            }
            return many;
        }

        /** The place of the known clause of this number, or NONE. */
        private int find(int number) {
            int low = 0;
            int high = count - 1;
            while (low <= high) {
                int middle = (low + high) / 2;
                if (numbers[middle] == number) {
                    return known[middle] ? middle : NONE;
                }
                if (numbers[middle] < number) {
                    low = middle + 1;
                } else {
                    high = middle - 1;
                }
            }
            return NONE;
        }
    }
}
