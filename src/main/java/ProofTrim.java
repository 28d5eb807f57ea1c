/**
 * Proofs by natural deduction that are told as texts, checked, shortened, spelt and compared.
 * README.md tells how the class is used; all rooms are made by the constructor and used again.
 */
public final class ProofTrim {
    public static final int NONE = -1;

    private static final int NO_SUCH = -2;
    private static final int BAD_NUMBER = -3;
    private static final int TOO_MANY = -4;
    private static final int NOT_NOW = -5;
    private static final int FAULTY = -30;

    private static final int TAPE_BYTES = 600;
    private static final int SLOTS = 4;
    private static final int MAX_HYPOTHESES = 6;
    private static final int FORMULA_WORDS = 30;
    private static final int TOLD_TERMS = 120;
    private static final int TOLD_NAMES = 24;
    private static final int MAX_NODES = 200;
    private static final int MAX_STEPS = 60;
    private static final int SEARCH_WORDS = 40;
    private static final int BLANK = 32;
    private static final long MOST_BYTES = 2147483647L;

    // All words, each as wide as the widest; a word's number in this row is its code.
    private static final String WORDS = "p    q    r    s    t    u    v    w    no   imp  and  or   not  fun  app  pair fst  snd  inl  inr  case abort";
    private static final int WORD_WIDTH = 5;
    private static final int WORD_COUNT = 22;
    private static final int[] WORD_LENGTHS = {1, 1, 1, 1, 1, 1, 1, 1, 2, 3, 3, 2, 3, 3, 3, 4, 3, 3, 3, 3, 4, 5};

    // Codes of words in FORMULAS; ATOMS are 0 to 7.
    private static final int LAST_ATOM = 7;
    private static final int NO = 8;
    private static final int IMP = 9;
    private static final int AND = 10;
    private static final int OR = 11;
    private static final int NOT = 12;

    // What a TERM is made by: the RULE of its LINE, so that a word's code is OP_CODES more.
    private static final int OP_CODES = 11;
    private static final int NAME = 1;
    private static final int FUN = 2;
    private static final int APP = 3;
    private static final int PAIR = 4;
    private static final int FST = 5;
    private static final int SND = 6;
    private static final int INL = 7;
    private static final int INR = 8;
    private static final int CASE = 9;
    private static final int ABORT = 10;
    private static final int[] ARITIES = {0, 0, 1, 2, 2, 1, 1, 1, 1, 3, 1};

    private final int[] tape;
    private int tapeCount;
    private final Formulas formulas;
    private final Hypotheses given;
    private final Reader reader;
    private final Term[] slots;
    private final Term spare;
    private final Layout layout;
    private final Reducer reducer;
    private final Speller speller;
    private final LineTable lineTable;
    private final Parts parts;
    private final Decider decider;
    private final int[] kinds;
    private final int[] traceKinds;
    private int traceCount;
    private int goalFormula;
    private int goalWords;

    public ProofTrim() {
        tape = new int[TAPE_BYTES];
        formulas = new Formulas();
        given = new Hypotheses();
        reader = new Reader(formulas, tape);
        slots = new Term[SLOTS];
        for (int i = 0; i < SLOTS; i++) {
            slots[i] = new Term();
        }
        spare = new Term();
        layout = new Layout(formulas, given);
        reducer = new Reducer(layout);
        speller = new Speller(formulas, given);
        lineTable = new LineTable(given);
        parts = new Parts(formulas);
        decider = new Decider(parts);
        kinds = new int[MAX_STEPS];
        traceKinds = new int[MAX_STEPS];
        goalFormula = 0;
        goalWords = 1;
    }

    public int feed(int a, int b, int c, int d, int e) {
        if (tapeCount + 20 > TAPE_BYTES) {
            return TOO_MANY;
        }
        putBytes(a);
        putBytes(b);
        putBytes(c);
        putBytes(d);
        putBytes(e);
        return tapeCount;
    }

    private void putBytes(int four) {
        for (int shift = 24; shift >= 0 && tapeCount < TAPE_BYTES; shift -= 8) {
            tape[tapeCount] = (four >>> shift) & 255;
            tapeCount++;
        }
    }

    private boolean tapeLacks(int n) {
        return n < 0 || n > tapeCount;
    }

    public int hypotheses(int n) {
        if (tapeLacks(n)) {
            return BAD_NUMBER;
        }
        tapeCount = 0;
        if (!reader.readHypotheses(n)) {
            return FAULTY - reader.flaw;
        }
        given.takeOver(reader.told);
        for (int i = 0; i < SLOTS; i++) {
            slots[i].clear();
        }
        return given.many;
    }

    public int goal(int n) {
        if (tapeLacks(n)) {
            return BAD_NUMBER;
        }
        tapeCount = 0;
        int formula = reader.readGoal(n);
        if (formula == NONE) {
            return FAULTY - reader.flaw;
        }
        goalFormula = formula;
        goalWords = reader.speltWords;
        return reader.toldWords;
    }

    public int proof(int slot, int n) {
        if (noSlot(slot)) {
            return NO_SUCH;
        }
        if (tapeLacks(n)) {
            return BAD_NUMBER;
        }
        tapeCount = 0;
        if (!reader.readTerm(n, given, spare)) {
            return FAULTY - reader.flaw;
        }
        layout.arrange(spare);
        int bad = layout.ask();
        if (bad != NONE) {
            reader.blameTerm(bad);
            return FAULTY - reader.flaw;
        }
        slots[slot].takeOver(spare);
        return spare.nodes;
    }

    public int fault(int what) {
        if (what == 0) {
            return reader.flaw;
        }
        return what == 1 ? reader.place : NONE;
    }

    public int drop(int slot) {
        if (noSlot(slot)) {
            return NO_SUCH;
        }
        int had = slots[slot].nodes;
        slots[slot].clear();
        return had;
    }

    public int count(int what) {
        switch (what) {
            case 0:
                return given.many;
            case 1:
                return fullSlots();
            case 2:
                return tapeCount;
            case 3:
                return traceCount;
            default:
                return NONE;
        }
    }

    private int fullSlots() {
        int bits = 0;
        for (int i = 0; i < SLOTS; i++) {
            if (slots[i].nodes > 0) {
                bits |= 1 << i;
            }
        }
        return bits;
    }

    public int hypothesis(int k, int what, int i) {
        if (k < 0 || k >= given.many || what < 0 || what > 1) {
            return NO_SUCH;
        }
        if (i < 0) {
            return BAD_NUMBER;
        }
        return what == 0 ? nameLetter(given.nameOf(k), i) : formulas.byteAt(given.formulaOf(k), i);
    }

    public int goalByte(int i) {
        return i < 0 ? BAD_NUMBER : formulas.byteAt(goalFormula, i);
    }

    public int spell(int slot, int what, int i) {
        if (noSlot(slot) || what < 0 || what > 2) {
            return NO_SUCH;
        }
        if (i < 0) {
            return BAD_NUMBER;
        }
        if (slots[slot].nodes == 0) {
            return NOT_NOW;
        }
        spellSlot(slot, what, i);
        return speller.found;
    }

    public int length(int slot, int what) {
        if (noSlot(slot) || what < 0 || what > 2) {
            return NO_SUCH;
        }
        if (slots[slot].nodes == 0) {
            return NOT_NOW;
        }
        spellSlot(slot, what, NONE);
        return (int) Math.min(speller.spelt, MOST_BYTES);
    }

    private void spellSlot(int slot, int what, int wanted) {
        layout.arrange(slots[slot]);
        speller.begin(wanted);
        if (what == 2) {
            layout.ask();
            speller.putFormula(layout.typeOf(0));
        } else {
            speller.putTerm(layout, what == 0);
        }
    }

    public int size(int slot, int what) {
        if (noSlot(slot) || what < 0 || what > 6) {
            return NO_SUCH;
        }
        Term term = slots[slot];
        if (term.nodes == 0) {
            return NOT_NOW;
        }
        layout.arrange(term);
        switch (what) {
            case 0:
                return term.nodes;
            case 1:
                return layout.height();
            case 2:
                return term.hypothesesUsed();
            case 6:
                return term.redexesOf(0) == 0 ? 1 : 0;
            default:
                layout.ask();
                return sizeByFormulas(what);
        }
    }

    private int sizeByFormulas(int what) {
        if (what == 5) {
            return layout.typeOf(0) == goalFormula ? 1 : 0;
        }
        formulas.beginMarks();
        if (what == 4) {
            given.markFormulas(formulas);
            formulas.mark(layout.typeOf(0));
            formulas.markParts();
        }
        return layout.markTypes();
    }

    public int redexes(int slot, int kind) {
        if (noSlot(slot) || kind < 0 || kind > 7) {
            return NO_SUCH;
        }
        if (slots[slot].nodes == 0) {
            return NOT_NOW;
        }
        return slots[slot].redexesOf(kind);
    }

    public int step(int slot) {
        if (noSlot(slot)) {
            return NO_SUCH;
        }
        if (slots[slot].nodes == 0) {
            return NOT_NOW;
        }
        int kind = reducer.reduce(slots[slot], spare);
        if (kind > 0) {
            slots[slot].takeOver(spare);
        }
        return kind;
    }

    public int normal(int slot) {
        if (noSlot(slot)) {
            return NO_SUCH;
        }
        if (slots[slot].nodes == 0) {
            return NOT_NOW;
        }
        int steps = reducer.reduceAll(slots[slot], kinds);
        if (steps < 0) {
            return steps;
        }
        slots[slot].takeOver(reducer.reduced());
        System.arraycopy(kinds, 0, traceKinds, 0, MAX_STEPS);
        traceCount = steps;
        return steps;
    }

    public int trace(int k) {
        return k < 0 || k >= traceCount || k >= MAX_STEPS ? NO_SUCH : traceKinds[k];
    }

    public int cut(int a, int k, int b, int c) {
        if (noSlot(a) || noSlot(b) || noSlot(c) || k < 0 || k >= given.many) {
            return NO_SUCH;
        }
        if (slots[a].nodes == 0 || slots[b].nodes == 0 || provenBy(b) != given.formulaOf(k)) {
            return NOT_NOW;
        }
        if (!reducer.replace(slots[a], k, slots[b], spare)) {
            return TOO_MANY;
        }
        slots[c].takeOver(spare);
        return spare.nodes;
    }

    private int provenBy(int slot) {
        if (noSlot(slot)) {
            return NONE;
        }
        layout.arrange(slots[slot]);
        layout.ask();
        return layout.typeOf(0);
    }

    public int lines(int slot) {
        int refused = numberLines(slot);
        return refused != 0 ? refused : lineTable.many;
    }

    public int line(int slot, int k, int what) {
        int refused = numberLines(slot);
        if (refused != 0) {
            return refused;
        }
        if (k < 0 || k >= lineTable.many || what < 0 || what > 4) {
            return NO_SUCH;
        }
        if (what == 0) {
            return lineTable.ruleOf(k);
        }
        return what == 4 ? lineTable.deepOf(k) : lineTable.fromOf(k, what - 1);
    }

    public int lineByte(int slot, int k, int i) {
        int refused = numberLines(slot);
        if (refused != 0) {
            return refused;
        }
        if (k < 0 || k >= lineTable.many) {
            return NO_SUCH;
        }
        return i < 0 ? BAD_NUMBER : formulas.byteAt(lineTable.formulaOf(k), i);
    }

    /** Fills the table of LINES by a SLOT: 0, or the code by which that is refused. */
    private int numberLines(int slot) {
        if (noSlot(slot)) {
            return NO_SUCH;
        }
        if (slots[slot].nodes == 0) {
            return NOT_NOW;
        }
        layout.arrange(slots[slot]);
        layout.ask();
        lineTable.fill(layout);
        return 0;
    }

    public int equal(int a, int b) {
        if (noSlot(a) || noSlot(b)) {
            return NO_SUCH;
        }
        if (slots[a].nodes == 0 || slots[b].nodes == 0) {
            return NOT_NOW;
        }
        return slots[a].sameAs(slots[b]) ? 1 : 0;
    }

    public int alike(int a, int b) {
        if (noSlot(a) || noSlot(b)) {
            return NO_SUCH;
        }
        if (slots[a].nodes == 0 || slots[b].nodes == 0) {
            return NOT_NOW;
        }
        if (reducer.reduceAll(slots[a], kinds) < 0) {
            return TOO_MANY;
        }
        spare.takeOver(reducer.reduced());
        if (reducer.reduceAll(slots[b], kinds) < 0) {
            return TOO_MANY;
        }
        return spare.sameAs(reducer.reduced()) ? 1 : 0;
    }

    public int side(int slot) {
        if (noSlot(slot)) {
            return NO_SUCH;
        }
        if (slots[slot].nodes == 0 || formulas.kindOf(provenBy(slot)) != OR) {
            return NOT_NOW;
        }
        if (reducer.reduceAll(slots[slot], kinds) < 0) {
            return TOO_MANY;
        }
        int op = reducer.reduced().opAt(0);
        if (op == INL) {
            return 0;
        }
        return op == INR ? 1 : NONE;
    }

    public int provable() {
        return provableFrom(goalFormula);
    }

    public int bySide(int side) {
        if (side < 0 || side > 1) {
            return NO_SUCH;
        }
        if (formulas.kindOf(goalFormula) != OR) {
            return NOT_NOW;
        }
        return provableFrom(side == 0 ? formulas.leftOf(goalFormula) : formulas.rightOf(goalFormula));
    }

    private int provableFrom(int formula) {
        if (given.wordsInAll() + goalWords > SEARCH_WORDS) {
            return TOO_MANY;
        }
        parts.collect(given, formula);
        return decider.decide(given, formula) ? 1 : 0;
    }

    public int classical() {
        return against() == NONE ? 1 : 0;
    }

    public int against() {
        parts.collect(given, goalFormula);
        return parts.leastAgainst(given, goalFormula);
    }

    private static boolean noSlot(int slot) {
        return slot < 0 || slot >= SLOTS;
    }

    /** What stands in a row at i, or NONE beside it: for numbers that come out of other rows. */
    private static int at(int[] row, int i) {
        return i >= 0 && i < row.length ? row[i] : NONE;
    }

    /** Letter i of a NAME, whose letters are packed into an int from the highest byte on. */
    private static int nameLetter(int name, int i) {
        if (i < 0 || i > 3) {
            return NONE;
        }
        int letter = (name >>> (24 - 8 * i)) & 255;
        return letter == 0 ? NONE : letter;
    }

    private static int nameLength(int name) {
        int letters = 0;
        for (int rest = name; rest != 0 && letters < 4; rest <<= 8) {
            letters++;
        }
        return letters;
    }

    private static int wordLength(int code) {
        return code >= 0 && code < WORD_COUNT ? WORD_LENGTHS[code] : 0;
    }

    private static int wordLetter(int code, int i) {
        if (i < 0 || i >= wordLength(code)) {
            return NONE;
        }
        return WORDS.charAt(code * WORD_WIDTH + i);
    }

    private static int arity(int op) {
        return op >= 0 && op < ARITIES.length ? ARITIES[op] : 0;
    }

    private static boolean tellsFormula(int op) {
        return op == FUN || op == INL || op == INR || op == ABORT;
    }

    /**
     * FORMULAS, each kept once, so that the same ones have the same number; what one is made of
     * has lower numbers. Numbers 0 to 8 are ATOMS and no: their words' codes.
     */
    private static final class Formulas {
        // Each word that is read makes one at most, and 512 calls feed 5110 words at most.
        private static final int ROOM = 5200;
        private static final int HEADS = 1024;

        private final int[] kind = new int[ROOM];
        private final int[] left = new int[ROOM];
        private final int[] right = new int[ROOM];
        private final long[] bytes = new long[ROOM];
        private final int[] chain = new int[ROOM];
        private final int[] marks = new int[ROOM];
        private final int[] heads = new int[HEADS];
        private int made;
        private int stamp;

        Formulas() {
            for (int i = 0; i < HEADS; i++) {
                heads[i] = NONE;
            }
            for (int code = 0; code <= NO; code++) {
                kind[code] = code;
                left[code] = NONE;
                right[code] = NONE;
                bytes[code] = wordLength(code);
            }
            made = NO + 1;
        }

        /** The number of imp, and, or of two; no, if the room is full (past the 512th call). */
        int make(int code, int first, int second) {
            int head = ((code * 31 + first) * 31 + second) & (HEADS - 1);
            int seen = heads[head];
            for (int i = 0; i < ROOM && seen >= 0 && seen < made; i++) {
                if (kind[seen] == code && left[seen] == first && right[seen] == second) {
                    return seen;
                }
                seen = chain[seen];
            }
            if (made >= ROOM) {
                return NO;
            }
            int fresh = made;
            kind[fresh] = code;
            left[fresh] = first;
            right[fresh] = second;
            bytes[fresh] = wordLength(code) + 2 + bytesOf(first) + bytesOf(second);
            chain[fresh] = heads[head];
            heads[head] = fresh;
            made++;
            return fresh;
        }

        int kindOf(int formula) {
            return formula >= 0 && formula < made ? kind[formula] : NONE;
        }

        int leftOf(int formula) {
            return formula >= 0 && formula < made ? left[formula] : NONE;
        }

        int rightOf(int formula) {
            return formula >= 0 && formula < made ? right[formula] : NONE;
        }

        /** How many bytes it has, SPELT: a case can double a FORMULA time and again, so a long. */
        long bytesOf(int formula) {
            return formula >= 0 && formula < made ? bytes[formula] : 0;
        }

        /** Byte i of a FORMULA, SPELT, or NONE. */
        int byteAt(int formula, long i) {
            int here = formula;
            long rest = i;
            if (rest < 0 || rest >= bytesOf(here)) {
                return NONE;
            }
            for (int down = 0; down < ROOM; down++) {
                int code = kindOf(here);
                int letters = wordLength(code);
                if (rest < letters) {
                    return wordLetter(code, (int) rest);
                }
                long behind = rest - letters - 1;
                if (behind < 0 || behind == bytesOf(leftOf(here))) {
                    return BLANK;
                }
                if (behind < bytesOf(leftOf(here))) {
                    here = leftOf(here);
                    rest = behind;
                } else {
                    rest = behind - bytesOf(leftOf(here)) - 1;
                    here = rightOf(here);
                }
            }
            return NONE;
        }

        void beginMarks() {
            stamp++;
        }

        /** Marks a FORMULA: whether it had no mark. */
        boolean mark(int formula) {
            if (formula < 0 || formula >= made || marks[formula] == stamp) {
                return false;
            }
            marks[formula] = stamp;
            return true;
        }

        boolean isMarked(int formula) {
            return formula >= 0 && formula < made && marks[formula] == stamp;
        }

        /** Marks all PARTS of what is marked: how many there are. */
        int markParts() {
            int marked = 0;
            for (int formula = made - 1; formula >= 0; formula--) {
                if (marks[formula] == stamp) {
                    mark(left[formula]);
                    mark(right[formula]);
                    marked++;
                }
            }
            return marked;
        }
    }

    /** HYPOTHESES: NAMES (packed), FORMULAS, and how many words these have, SPELT. */
    private static final class Hypotheses {
        private final int[] names = new int[MAX_HYPOTHESES];
        private final int[] formulas = new int[MAX_HYPOTHESES];
        private final int[] words = new int[MAX_HYPOTHESES];
        private int many;

        void clear() {
            many = 0;
        }

        boolean isFull() {
            return many >= MAX_HYPOTHESES;
        }

        void add(int name, int formula, int speltWords) {
            if (many < MAX_HYPOTHESES) {
                names[many] = name;
                formulas[many] = formula;
                words[many] = speltWords;
                many++;
            }
        }

        void takeOver(Hypotheses other) {
            clear();
            for (int k = 0; k < other.many && k < MAX_HYPOTHESES; k++) {
                add(other.names[k], other.formulas[k], other.words[k]);
            }
        }

        /** The number of the HYPOTHESIS of that NAME, or NONE. */
        int find(int name) {
            for (int k = 0; k < many && k < MAX_HYPOTHESES; k++) {
                if (names[k] == name) {
                    return k;
                }
            }
            return NONE;
        }

        int nameOf(int k) {
            return k >= 0 && k < many && k < MAX_HYPOTHESES ? names[k] : 0;
        }

        int formulaOf(int k) {
            return k >= 0 && k < many && k < MAX_HYPOTHESES ? formulas[k] : NONE;
        }

        int wordsInAll() {
            int sum = 0;
            for (int k = 0; k < many && k < MAX_HYPOTHESES; k++) {
                sum += words[k];
            }
            return sum;
        }

        void markFormulas(Formulas all) {
            for (int k = 0; k < many && k < MAX_HYPOTHESES; k++) {
                all.mark(formulas[k]);
            }
        }
    }

    /**
     * A TERM as the row of its NODES in the order of their first words. arg is the FORMULA that is
     * told there; of a NAME, how many fun, case tell NAMES around the one that told it, or -1 - k
     * of HYPOTHESIS k. So TERMS that are spelt alike are the same rows. No NODES: an empty SLOT.
     */
    private static final class Term {
        private final int[] ops = new int[MAX_NODES];
        private final int[] args = new int[MAX_NODES];
        private int nodes;
        private boolean overfull;

        void clear() {
            nodes = 0;
            overfull = false;
        }

        void add(int op, int arg) {
            if (nodes >= MAX_NODES) {
                overfull = true;
                return;
            }
            ops[nodes] = op;
            args[nodes] = arg;
            nodes++;
        }

        void tell(int i, int formula) {
            if (i >= 0 && i < nodes) {
                args[i] = formula;
            }
        }

        int opAt(int i) {
            return i >= 0 && i < nodes ? ops[i] : NONE;
        }

        int argAt(int i) {
            return i >= 0 && i < nodes ? args[i] : NONE;
        }

        boolean isName(int i, int arg) {
            return opAt(i) == NAME && argAt(i) == arg;
        }

        void takeOver(Term other) {
            if (other.nodes >= 0 && other.nodes <= MAX_NODES) {
                System.arraycopy(other.ops, 0, ops, 0, other.nodes);
                System.arraycopy(other.args, 0, args, 0, other.nodes);
                nodes = other.nodes;
                overfull = false;
            }
        }

        boolean sameAs(Term other) {
            if (nodes != other.nodes) {
                return false;
            }
            for (int i = 0; i < nodes && i < MAX_NODES; i++) {
                if (ops[i] != other.ops[i] || args[i] != other.args[i]) {
                    return false;
                }
            }
            return true;
        }

        int hypothesesUsed() {
            int bits = 0;
            for (int i = 0; i < nodes && i < MAX_NODES; i++) {
                if (ops[i] == NAME && args[i] < 0) {
                    bits |= 1 << (-1 - args[i]);
                }
            }
            return bits;
        }

        /** The KIND of the REDEX whose first word is that of NODE i, or 0. */
        int redexAt(int i) {
            int outer = opAt(i);
            int inner = opAt(i + 1);
            if (outer != APP && outer != FST && outer != SND && outer != CASE && outer != ABORT) {
                return 0;
            }
            if (inner == CASE || inner == ABORT) {
                return inner == CASE ? 6 : 7;
            }
            switch (outer) {
                case APP:
                    return inner == FUN ? 1 : 0;
                case FST:
                    return inner == PAIR ? 2 : 0;
                case SND:
                    return inner == PAIR ? 3 : 0;
                case CASE:
                    return inner == INL ? 4 : inner == INR ? 5 : 0;
                default:
                    return 0;
            }
        }

        /** How many REDEXES of a KIND there are, or of all for 0. */
        int redexesOf(int kind) {
            int found = 0;
            for (int i = 0; i < nodes; i++) {
                int here = redexAt(i);
                if (here != 0 && (kind == 0 || kind == here)) {
                    found++;
                }
            }
            return found;
        }

        /** The NODE of the first REDEX, or NONE. */
        int firstRedex() {
            for (int i = 0; i < nodes; i++) {
                if (redexAt(i) != 0) {
                    return i;
                }
            }
            return NONE;
        }
    }

    /** Reads TEXTS off THE TAPE; keeps the latest FAULT and its place. */
    private static final class Reader {
        private static final int END = -3;
        private static final int SIGN = -2;
        private static final int SEMICOLON = 59;
        // What is still to come in the TEXT of a SLOT, the next on top of a pile.
        private static final int WANT_TERM = 1;
        private static final int WANT_FORMULA = 2;
        private static final int WANT_NAME = 3;
        private static final int FORGET_NAME = 4;
        private static final int WANTS_A_TERM = 7;

        private final Formulas formulas;
        private final int[] tape;
        private final long[] packedWords = new long[WORD_COUNT];
        private final Hypotheses told = new Hypotheses();
        private final int[] formulaCodes = new int[FORMULA_WORDS];
        private final int[] pile = new int[(TOLD_TERMS + 2) * WANTS_A_TERM];
        private int piled;
        private final int[] scope = new int[TOLD_NAMES];
        private int scoped;
        private final int[] places = new int[TOLD_TERMS];
        private int textEnd;
        private int next;
        private int wordAt;
        private int code;
        private long packed;
        private int toldWords;
        private int speltWords;
        private int flaw;
        private int place = NONE;

        Reader(Formulas formulas, int[] tape) {
            this.formulas = formulas;
            this.tape = tape;
            for (int word = 0; word < WORD_COUNT; word++) {
                long sum = 0;
                for (int i = 0; i < wordLength(word); i++) {
                    sum = sum << 8 | wordLetter(word, i);
                }
                packedWords[word] = sum;
            }
        }

        private void begin(int n) {
            textEnd = Math.min(n, tape.length);
            next = 0;
            flaw = 0;
            place = NONE;
        }

        private boolean fail(int kind, int where) {
            flaw = kind;
            place = where;
            return false;
        }

        private static boolean isLetter(int sign) {
            return sign >= 'a' && sign <= 'z';
        }

        /** Goes on to the next word or sign: code is a word's, NONE for others, SIGN or END. */
        private void advance() {
            while (next < textEnd && tape[next] == BLANK) {
                next++;
            }
            wordAt = next;
            packed = 0;
            if (next >= textEnd) {
                wordAt = textEnd;
                code = END;
                return;
            }
            if (!isLetter(tape[next])) {
                packed = tape[next];
                next++;
                code = SIGN;
                return;
            }
            while (next < textEnd && isLetter(tape[next])) {
                if (next - wordAt < WORD_WIDTH) {
                    packed = packed << 8 | tape[next];
                }
                next++;
            }
            code = next - wordAt > WORD_WIDTH ? NONE : codeOf(packed);
        }

        private int codeOf(long letters) {
            for (int word = 0; word < WORD_COUNT; word++) {
                if (packedWords[word] == letters) {
                    return word;
                }
            }
            return NONE;
        }

        private int wordLetters() {
            return next - wordAt;
        }

        private boolean atName() {
            return code >= NONE && code <= LAST_ATOM && wordLetters() <= 4;
        }

        /** The NAME that was read, its first letter in the highest byte. */
        private int nameRead() {
            return (int) (packed << 8 * (4 - Math.min(4, wordLetters())));
        }

        boolean readHypotheses(int n) {
            begin(n);
            told.clear();
            for (int k = 0; k <= MAX_HYPOTHESES; k++) {
                advance();
                if (code == END) {
                    return true;
                }
                if (!readHypothesis()) {
                    return false;
                }
            }
            return false;
        }

        private boolean readHypothesis() {
            if (!atName()) {
                return fail(1, wordAt);
            }
            int name = nameRead();
            boolean likeBound = nameLetter(name, 0) == 'x' && wordLetters() > 1;
            if (likeBound || told.find(name) != NONE) {
                return fail(2, wordAt);
            }
            if (told.isFull()) {
                return fail(4, wordAt);
            }
            int formula = readFormula();
            if (formula == NONE) {
                return false;
            }
            advance();
            if (code != SIGN || packed != SEMICOLON) {
                return fail(1, wordAt);
            }
            told.add(name, formula, speltWords);
            return true;
        }

        /** The FORMULA that is the TEXT, or NONE. */
        int readGoal(int n) {
            begin(n);
            int formula = readFormula();
            return formula != NONE && readEnd() ? formula : NONE;
        }

        private boolean readEnd() {
            advance();
            return code == END || fail(1, wordAt);
        }

        private int readFormula() {
            int open = 1;
            int nots = 0;
            int words = 0;
            while (open > 0 && words <= FORMULA_WORDS) {
                advance();
                if (code < 0 || code > NOT) {
                    fail(1, wordAt);
                    return NONE;
                }
                if (words >= FORMULA_WORDS) {
                    fail(4, wordAt);
                    return NONE;
                }
                formulaCodes[words] = code;
                words++;
                if (code == NOT) {
                    nots++;
                } else {
                    open += code >= IMP ? 1 : -1;
                }
            }
            toldWords = words;
            speltWords = words + nots;
            return buildFormula(words);
        }

        /** From the last word to the first: FORMULAS that are ready take the places of words already used. */
        private int buildFormula(int words) {
            int made = NONE;
            int ready = words;
            for (int i = words - 1; i >= 0 && i < FORMULA_WORDS; i--) {
                made = formulaCodes[i];
                if (made == NOT) {
                    made = formulas.make(IMP, at(formulaCodes, ready), NO);
                } else if (made >= IMP) {
                    made = formulas.make(made, at(formulaCodes, ready), at(formulaCodes, ready + 1));
                    ready++;
                } else {
                    ready--;
                }
                if (ready >= 0 && ready < FORMULA_WORDS) {
                    formulaCodes[ready] = made;
                }
            }
            return made;
        }

        /** Reads a TERM; what it PROVES is not asked here. */
        boolean readTerm(int n, Hypotheses given, Term term) {
            begin(n);
            term.clear();
            piled = 0;
            scoped = 0;
            push(WANT_TERM);
            for (int i = 0; i < pile.length && piled > 0; i++) {
                if (!readWanted(pop(), given, term)) {
                    return false;
                }
            }
            return readEnd();
        }

        private void push(int wanted) {
            if (piled >= 0 && piled < pile.length) {
                pile[piled] = wanted;
                piled++;
            }
        }

        private int pop() {
            piled--;
            return at(pile, piled);
        }

        private boolean readWanted(int wanted, Hypotheses given, Term term) {
            switch (wanted) {
                case WANT_FORMULA:
                    int formula = readFormula();
                    term.tell(term.nodes - 1, formula);
                    return formula != NONE;
                case WANT_NAME:
                    return readBinder();
                case FORGET_NAME:
                    scoped--;
                    return true;
                default:
                    return readFirstWord(given, term);
            }
        }

        private boolean readBinder() {
            advance();
            if (!atName()) {
                return fail(1, wordAt);
            }
            if (scoped < 0 || scoped >= TOLD_NAMES) {
                return fail(4, wordAt);
            }
            scope[scoped] = nameRead();
            scoped++;
            return true;
        }

        private boolean readFirstWord(Hypotheses given, Term term) {
            advance();
            int op = code - OP_CODES;
            boolean plainName = atName();
            if (!plainName && (op < FUN || op > ABORT)) {
                return fail(1, wordAt);
            }
            int arg = plainName ? meaning(nameRead(), given) : 0;
            if (plainName && arg == TOLD_NAMES) {
                return fail(3, wordAt);
            }
            int node = term.nodes;
            if (node < 0 || node >= TOLD_TERMS) {
                return fail(4, wordAt);
            }
            places[node] = wordAt;
            term.add(plainName ? NAME : op, arg);
            if (!plainName) {
                wantRest(op);
            }
            return true;
        }

        /** What a NAME means as a Term's arg; TOLD_NAMES, which is none, if nobody told it. */
        private int meaning(int name, Hypotheses given) {
            for (int level = Math.min(scoped, TOLD_NAMES) - 1; level >= 0; level--) {
                if (scope[level] == name) {
                    return level;
                }
            }
            int k = given.find(name);
            return k == NONE ? TOLD_NAMES : -1 - k;
        }

        /** What must come behind a first word goes onto the pile, the last of it first. */
        private void wantRest(int op) {
            if (op == CASE) {
                wantBoundTerm();
                push(WANT_NAME);
                wantBoundTerm();
                push(WANT_NAME);
                push(WANT_TERM);
            } else if (op == FUN) {
                wantBoundTerm();
                push(WANT_FORMULA);
                push(WANT_NAME);
            } else {
                for (int i = 0; i < arity(op); i++) {
                    push(WANT_TERM);
                }
                if (tellsFormula(op)) {
                    push(WANT_FORMULA);
                }
            }
        }

        private void wantBoundTerm() {
            push(FORGET_NAME);
            push(WANT_TERM);
        }

        /** FAULT 5, at the first word of a NODE of the TERM that was read last. */
        void blameTerm(int node) {
            fail(5, at(places, node));
        }
    }

    /**
     * Where things are in a TERM: the end of each NODE, how many NAMES are told around it, what it
     * is in, who told its NAME; and what each NODE PROVES.
     */
    private static final class Layout {
        private final Formulas formulas;
        private final Hypotheses given;
        private Term term;
        private final int[] ends = new int[MAX_NODES];
        private final int[] depths = new int[MAX_NODES];
        private final int[] parents = new int[MAX_NODES];
        private final int[] ranks = new int[MAX_NODES];
        private final int[] nests = new int[MAX_NODES];
        private final int[] arms = new int[MAX_NODES];
        private final int[] openArms = new int[MAX_NODES];
        private final int[] types = new int[MAX_NODES];
        // The way through the TERM: i where NODE i ends, -1 - i where an arm, that is a TERM behind a NAME, begins.
        private final int[] walk = new int[2 * MAX_NODES];
        private int walkLength;

        Layout(Formulas formulas, Hypotheses given) {
            this.formulas = formulas;
            this.given = given;
            this.term = new Term();
        }

        void arrange(Term arranged) {
            term = arranged;
            for (int i = term.nodes - 1; i >= 0 && i < MAX_NODES; i--) {
                int end = i + 1;
                for (int k = arity(term.opAt(i)); k > 0; k--) {
                    end = endOf(end);
                }
                ends[i] = end;
            }
            parents[0] = NONE;
            ranks[0] = 0;
            nests[0] = 1;
            depths[0] = 0;
            walkLength = 0;
            for (int i = 0; i < term.nodes && i < MAX_NODES; i++) {
                placeChildren(i);
                bind(i);
                if (arity(term.opAt(i)) == 0) {
                    walkOut(i);
                }
            }
        }

        private void placeChildren(int i) {
            int op = term.opAt(i);
            int child = i + 1;
            for (int rank = 0; rank < arity(op) && child >= 0 && child < MAX_NODES; rank++) {
                parents[child] = i;
                ranks[child] = rank;
                nests[child] = nestOf(i) + 1;
                depths[child] = depthOf(i) + (isArm(child) ? 1 : 0);
                child = endOf(child);
            }
        }

        /** Keeps which arms are open, and of a NAME the arm that it is told for. */
        private void bind(int i) {
            if (i < 0 || i >= MAX_NODES) {
                return;
            }
            int level = depths[i] - 1;
            if (isArm(i) && level >= 0 && level < MAX_NODES) {
                openArms[level] = i;
                addToWalk(-1 - i);
            }
            arms[i] = term.opAt(i) == NAME ? at(openArms, term.argAt(i)) : NONE;
        }

        private void walkOut(int leaf) {
            int here = leaf;
            addToWalk(here);
            for (int up = 0; up < MAX_NODES; up++) {
                int outer = parentOf(here);
                if (outer == NONE || endOf(outer) != endOf(here)) {
                    return;
                }
                here = outer;
                addToWalk(here);
            }
        }

        private void addToWalk(int stop) {
            if (walkLength >= 0 && walkLength < walk.length) {
                walk[walkLength] = stop;
                walkLength++;
            }
        }

        boolean isArm(int i) {
            int outer = term.opAt(parentOf(i));
            return outer == FUN || outer == CASE && rankOf(i) > 0;
        }

        int endOf(int i) {
            return i >= 0 && i < MAX_NODES ? ends[i] : MAX_NODES;
        }

        int depthOf(int i) {
            return i >= 0 && i < MAX_NODES ? depths[i] : 0;
        }

        int parentOf(int i) {
            return i >= 0 && i < MAX_NODES ? parents[i] : NONE;
        }

        int rankOf(int i) {
            return i >= 0 && i < MAX_NODES ? ranks[i] : NONE;
        }

        private int nestOf(int i) {
            return i >= 0 && i < MAX_NODES ? nests[i] : 0;
        }

        int typeOf(int i) {
            return i >= 0 && i < MAX_NODES ? types[i] : NONE;
        }

        int stop(int k) {
            return k >= 0 && k < walkLength ? at(walk, k) : 0;
        }

        int height() {
            int most = 0;
            for (int i = 0; i < term.nodes; i++) {
                most = Math.max(most, nestOf(i));
            }
            return most;
        }

        /** What is taken on where an arm begins. */
        int takenOn(int arm) {
            int outer = parentOf(arm);
            if (term.opAt(outer) == FUN) {
                return term.argAt(outer);
            }
            int cases = typeOf(outer + 1);
            return rankOf(arm) == 1 ? formulas.leftOf(cases) : formulas.rightOf(cases);
        }

        /** Asks what all NODES PROVE: the first that does not PROVE what it must, or NONE. */
        int ask() {
            for (int k = 0; k < walkLength; k++) {
                int i = stop(k);
                if (i >= 0 && i < MAX_NODES) {
                    int bad = unfitWithin(i);
                    if (bad != NONE) {
                        return bad;
                    }
                    types[i] = provenBy(i);
                    boolean cased = term.opAt(parentOf(i)) == CASE && rankOf(i) == 0;
                    if (cased && formulas.kindOf(types[i]) != OR) {
                        return i;
                    }
                }
            }
            return NONE;
        }

        /** The NODE right within i that does not PROVE what i needs, or NONE. */
        private int unfitWithin(int i) {
            int first = i + 1;
            int second = endOf(first);
            int firstType = typeOf(first);
            switch (term.opAt(i)) {
                case APP:
                    if (formulas.kindOf(firstType) != IMP) {
                        return first;
                    }
                    return typeOf(second) == formulas.leftOf(firstType) ? NONE : second;
                case FST:
                case SND:
                    return formulas.kindOf(firstType) == AND ? NONE : first;
                case CASE:
                    int third = endOf(second);
                    return typeOf(third) == typeOf(second) ? NONE : third;
                case ABORT:
                    return firstType == NO ? NONE : first;
                default:
                    return NONE;
            }
        }

        private int provenBy(int i) {
            int told = term.argAt(i);
            int first = typeOf(i + 1);
            int second = typeOf(endOf(i + 1));
            switch (term.opAt(i)) {
                case FUN:
                    return formulas.make(IMP, told, first);
                case APP:
                    return formulas.rightOf(first);
                case PAIR:
                    return formulas.make(AND, first, second);
                case FST:
                    return formulas.leftOf(first);
                case SND:
                    return formulas.rightOf(first);
                case INL:
                    return formulas.make(OR, first, told);
                case INR:
                    return formulas.make(OR, told, first);
                case CASE:
                    return second;
                case ABORT:
                    return told;
                default:
                    return told < 0 ? given.formulaOf(-1 - told) : takenOn(at(arms, i));
            }
        }

        /** Marks what NODES PROVE: how many of these FORMULAS had no mark. */
        int markTypes() {
            int fresh = 0;
            for (int i = 0; i < term.nodes; i++) {
                if (formulas.mark(typeOf(i))) {
                    fresh++;
                }
            }
            return fresh;
        }
    }

    /** STEPS, and a TERM in place of a NAME. */
    private static final class Reducer {
        private final Layout layout;
        private Term source = new Term();
        private Term target = new Term();
        private Term here = new Term();
        private Term there = new Term();

        Reducer(Layout layout) {
            this.layout = layout;
        }

        /** A STEP of one TERM into another: its KIND, 0 if it is NORMAL, TOO_MANY. */
        int reduce(Term from, Term into) {
            int redex = from.firstRedex();
            if (redex == NONE) {
                return 0;
            }
            int kind = from.redexAt(redex);
            layout.arrange(from);
            if (kind == 7) {
                layout.ask();
            }
            source = from;
            target = into;
            into.clear();
            copyPlain(0, redex);
            contract(redex, kind);
            copyPlain(layout.endOf(redex), from.nodes);
            return into.overfull ? TOO_MANY : kind;
        }

        private void contract(int redex, int kind) {
            int inner = redex + 1;
            int within = redex + 2;
            int innerEnd = layout.endOf(inner);
            int withinEnd = layout.endOf(within);
            switch (kind) {
                case 1:
                    putFor(redex, within, innerEnd, layout.endOf(redex));
                    break;
                case 2:
                    copyPlain(within, withinEnd);
                    break;
                case 3:
                    copyPlain(withinEnd, innerEnd);
                    break;
                case 4:
                    putFor(redex, innerEnd, within, innerEnd);
                    break;
                case 5:
                    putFor(redex, layout.endOf(innerEnd), within, innerEnd);
                    break;
                case 6:
                    moveOut(redex);
                    break;
                default:
                    target.add(ABORT, layout.typeOf(redex));
                    copyPlain(within, innerEnd);
                    break;
            }
        }

        private void copyPlain(int from, int end) {
            copyDeeper(source, from, end, 0, 0);
        }

        /** Copies NODES to where more NAMES are told around them; those told in them begin at level. */
        private void copyDeeper(Term origin, int from, int end, int level, int more) {
            for (int i = from; i < end && i < MAX_NODES && !target.overfull; i++) {
                int arg = origin.argAt(i);
                boolean toldWithin = origin.opAt(i) == NAME && arg >= level;
                target.add(origin.opAt(i), toldWithin ? arg + more : arg);
            }
        }

        /** Copies the arm of a NAME that is told at a redex, with the NODES from seed to seedEnd in its place. */
        private void putFor(int redex, int arm, int seed, int seedEnd) {
            int level = layout.depthOf(redex);
            int end = layout.endOf(arm);
            for (int i = arm; i < end && i < MAX_NODES && !target.overfull; i++) {
                int arg = source.argAt(i);
                if (source.isName(i, level)) {
                    copyDeeper(source, seed, seedEnd, level, layout.depthOf(i) - 1 - level);
                } else {
                    boolean toldWithin = source.opAt(i) == NAME && arg > level;
                    target.add(source.opAt(i), toldWithin ? arg - 1 : arg);
                }
            }
        }

        /** The inner case outside, what is around it around each of its two arms. */
        private void moveOut(int redex) {
            int inner = redex + 1;
            int level = layout.depthOf(redex);
            int arm = layout.endOf(inner + 1);
            target.add(CASE, 0);
            copyDeeper(source, inner + 1, arm, 0, 0);
            for (int k = 0; k < 2; k++) {
                int armEnd = layout.endOf(arm);
                target.add(source.opAt(redex), source.argAt(redex));
                copyDeeper(source, arm, armEnd, 0, 0);
                copyDeeper(source, layout.endOf(inner), layout.endOf(redex), level, 1);
                arm = armEnd;
            }
        }

        /** STEPS till a TERM is NORMAL, which reduced() is then: how many, or TOO_MANY. */
        int reduceAll(Term start, int[] kinds) {
            here.takeOver(start);
            for (int steps = 0; steps <= MAX_STEPS; steps++) {
                if (here.firstRedex() == NONE) {
                    return steps;
                }
                if (steps >= kinds.length) {
                    return TOO_MANY;
                }
                int kind = reduce(here, there);
                if (kind < 0) {
                    return kind;
                }
                kinds[steps] = kind;
                Term done = there;
                there = here;
                here = done;
            }
            return TOO_MANY;
        }

        Term reduced() {
            return here;
        }

        /** A TERM with another one in place of HYPOTHESIS k: whether there is room for it. */
        boolean replace(Term from, int k, Term seed, Term into) {
            layout.arrange(from);
            target = into;
            into.clear();
            for (int i = 0; i < from.nodes && !into.overfull; i++) {
                if (from.isName(i, -1 - k)) {
                    copyDeeper(seed, 0, seed.nodes, 0, layout.depthOf(i));
                } else {
                    into.add(from.opAt(i), from.argAt(i));
                }
            }
            return !into.overfull;
        }
    }

    /** Spells TERMS and FORMULAS without a text: counts the bytes, and finds the one that is wanted. */
    private static final class Speller {
        private final Formulas formulas;
        private final Hypotheses given;
        private long wanted;
        private long spelt;
        private int found;

        Speller(Formulas formulas, Hypotheses given) {
            this.formulas = formulas;
            this.given = given;
        }

        void begin(long wantedByte) {
            wanted = wantedByte;
            spelt = 0;
            found = NONE;
        }

        private void putBlank() {
            if (spelt > 0) {
                if (spelt == wanted) {
                    found = BLANK;
                }
                spelt++;
            }
        }

        private boolean wantsWithin(long bytes) {
            return wanted >= spelt && wanted < spelt + bytes;
        }

        private void putWord(int code) {
            putBlank();
            int letters = wordLength(code);
            if (wantsWithin(letters)) {
                found = wordLetter(code, (int) (wanted - spelt));
            }
            spelt += letters;
        }

        void putFormula(int formula) {
            putBlank();
            long bytes = formulas.bytesOf(formula);
            if (wantsWithin(bytes)) {
                found = formulas.byteAt(formula, wanted - spelt);
            }
            spelt += bytes;
        }

        private void putName(int name) {
            putBlank();
            int letters = nameLength(name);
            if (wantsWithin(letters)) {
                found = nameLetter(name, (int) (wanted - spelt));
            }
            spelt += letters;
        }

        /** x and the level to the base of 26: two digits do, since there are 200 NODES at most. */
        private void putLevel(int level) {
            int low = 'a' + level % 26;
            if (level < 26) {
                putName('x' << 24 | low << 16);
            } else {
                putName('x' << 24 | 'a' + level / 26 << 16 | low << 8);
            }
        }

        /** A TERM, or, without FORMULAS, its PROGRAM; ends early once the wanted byte is found. */
        void putTerm(Layout layout, boolean withFormulas) {
            Term term = layout.term;
            for (int i = 0; i < term.nodes && found == NONE; i++) {
                int op = term.opAt(i);
                int arg = term.argAt(i);
                if (layout.isArm(i) && term.opAt(layout.parentOf(i)) == CASE) {
                    putLevel(layout.depthOf(i) - 1);
                }
                if (op == NAME) {
                    putMeaning(arg);
                } else {
                    putWord(op + OP_CODES);
                }
                if (op == FUN) {
                    putLevel(layout.depthOf(i));
                }
                if (withFormulas && tellsFormula(op)) {
                    putFormula(arg);
                }
            }
        }

        private void putMeaning(int arg) {
            if (arg < 0) {
                putName(given.nameOf(-1 - arg));
            } else {
                putLevel(arg);
            }
        }
    }

    /** The LINES of a TERM. */
    private static final class LineTable {
        private static final int ROOM = MAX_HYPOTHESES + 2 * MAX_NODES;
        private static final int SOURCES = 3;

        private final Hypotheses given;
        private final int[] rules = new int[ROOM];
        private final int[] proven = new int[ROOM];
        private final int[] deeps = new int[ROOM];
        private final int[] sources = new int[ROOM * SOURCES];
        private final int[] lineOfNode = new int[MAX_NODES];
        private final int[] lineOfLevel = new int[MAX_NODES];
        private int many;

        LineTable(Hypotheses given) {
            this.given = given;
        }

        int ruleOf(int k) {
            return at(rules, k);
        }

        int deepOf(int k) {
            return at(deeps, k);
        }

        int formulaOf(int k) {
            return at(proven, k);
        }

        int fromOf(int k, int which) {
            return k < 0 || which < 0 || which >= SOURCES ? NONE : at(sources, k * SOURCES + which);
        }

        void fill(Layout layout) {
            many = 0;
            for (int k = 0; k < given.many; k++) {
                addLine(0, given.formulaOf(k), 0);
            }
            for (int k = 0; k < layout.walkLength; k++) {
                int stop = layout.stop(k);
                if (stop < 0) {
                    takeOn(layout, -1 - stop);
                } else {
                    endNode(layout, stop);
                }
            }
        }

        private int addLine(int rule, int formula, int deep) {
            if (many < 0 || many >= ROOM) {
                return NONE;
            }
            int fresh = many;
            rules[fresh] = rule;
            proven[fresh] = formula;
            deeps[fresh] = deep;
            for (int which = 0; which < SOURCES; which++) {
                sources[fresh * SOURCES + which] = NONE;
            }
            many++;
            return fresh;
        }

        private void setFrom(int k, int which, int line) {
            int spot = k * SOURCES + which;
            if (k >= 0 && which >= 0 && which < SOURCES && spot < sources.length) {
                sources[spot] = line;
            }
        }

        private void takeOn(Layout layout, int arm) {
            int deep = layout.depthOf(arm);
            int fresh = addLine(1, layout.takenOn(arm), deep);
            if (deep > 0 && deep <= MAX_NODES) {
                lineOfLevel[deep - 1] = fresh;
            }
        }

        private void endNode(Layout layout, int i) {
            int op = layout.term.opAt(i);
            int mine = op == NAME ? lineOfName(layout.term.argAt(i)) : addLine(op, layout.typeOf(i), layout.depthOf(i));
            if (i >= 0 && i < MAX_NODES) {
                lineOfNode[i] = mine;
            }
            int which = 0;
            if (op == FUN) {
                setFrom(mine, which, at(lineOfLevel, layout.depthOf(i)));
                which++;
            }
            int child = i + 1;
            for (int rank = 0; rank < arity(op); rank++) {
                setFrom(mine, which, at(lineOfNode, child));
                which++;
                child = layout.endOf(child);
            }
        }

        private int lineOfName(int arg) {
            return arg < 0 ? -1 - arg : at(lineOfLevel, arg);
        }
    }

    /** The PARTS of HYPOTHESES and a goal, in the order of their numbers, and by which sets they are TRUE. */
    private static final class Parts {
        private static final int ROOM = (MAX_HYPOTHESES + 1) * 2 * FORMULA_WORDS;
        private static final int ATOMS_A_LONG = 6;
        private static final long[] ATOM_PATTERNS = {
            0xAAAAAAAAAAAAAAAAL, 0xCCCCCCCCCCCCCCCCL, 0xF0F0F0F0F0F0F0F0L,
            0xFF00FF00FF00FF00L, 0xFFFF0000FFFF0000L, 0xFFFFFFFF00000000L};

        private final Formulas formulas;
        private final int[] spots = new int[Formulas.ROOM];
        private final int[] kinds = new int[ROOM];
        private final int[] lefts = new int[ROOM];
        private final int[] rights = new int[ROOM];
        private final long[] truths = new long[ROOM];
        private int many;

        Parts(Formulas formulas) {
            this.formulas = formulas;
        }

        void collect(Hypotheses given, int goal) {
            formulas.beginMarks();
            given.markFormulas(formulas);
            formulas.mark(goal);
            int left = formulas.markParts();
            many = 0;
            for (int formula = 0; formula < Formulas.ROOM && left > 0 && many < ROOM; formula++) {
                if (formulas.isMarked(formula)) {
                    spots[formula] = many;
                    kinds[many] = formulas.kindOf(formula);
                    lefts[many] = spotOf(formulas.leftOf(formula));
                    rights[many] = spotOf(formulas.rightOf(formula));
                    many++;
                    left--;
                }
            }
        }

        /** Which one of these PARTS a FORMULA is. */
        int spotOf(int formula) {
            return at(spots, formula);
        }

        int kindAt(int i) {
            return i >= 0 && i < many && i < ROOM ? kinds[i] : NONE;
        }

        int leftAt(int i) {
            return i >= 0 && i < many && i < ROOM ? lefts[i] : 0;
        }

        int rightAt(int i) {
            return i >= 0 && i < many && i < ROOM ? rights[i] : 0;
        }

        /** The least set by which all HYPOTHESES are TRUE and the goal is not, or NONE: 64 sets at once. */
        int leastAgainst(Hypotheses given, int goal) {
            for (int high = 0; high < 4; high++) {
                fillTruths(high);
                long bad = ~truthAt(spotOf(goal));
                for (int k = 0; k < given.many; k++) {
                    bad &= truthAt(spotOf(given.formulaOf(k)));
                }
                for (int low = 0; low < 64; low++) {
                    if ((bad >>> low & 1) != 0) {
                        return high * 64 + low;
                    }
                }
            }
            return NONE;
        }

        private long truthAt(int i) {
            return i >= 0 && i < many && i < ROOM ? truths[i] : 0;
        }

        /** By the 64 sets whose highest two ATOMS are told by high, a bit each. */
        private void fillTruths(int high) {
            for (int i = 0; i < many && i < ROOM; i++) {
                truths[i] = truthOf(i, high);
            }
        }

        private long truthOf(int i, int high) {
            int kind = kindAt(i);
            switch (kind) {
                case NO:
                    return 0;
                case IMP:
                    return ~truthAt(leftAt(i)) | truthAt(rightAt(i));
                case AND:
                    return truthAt(leftAt(i)) & truthAt(rightAt(i));
                case OR:
                    return truthAt(leftAt(i)) | truthAt(rightAt(i));
                default:
                    if (kind >= 0 && kind < ATOMS_A_LONG) {
                        return ATOM_PATTERNS[kind];
                    }
                    return (high >> (kind - ATOMS_A_LONG) & 1) != 0 ? -1L : 0L;
            }
        }
    }

    /**
     * Whether a goal can be proved. A set of PARTS (bits) is made larger by all that follows at
     * once; an or in it is taken by both sides; and an imp that matters is tried by adding what it
     * is from. What then holds of all that matters is what can be proved: the sets in which an or
     * has a side are the worlds of a Kripke model against the rest.
     */
    private static final class Decider {
        // Of the hardest searches that were found none meets more sets; a fuller memo makes them long.
        private static final int MEMO = 8192;
        private static final int MEMO_FILL = 6144;
        private static final int DEEPEST = 64;
        private static final long ALL = -1L;

        private final Parts parts;
        private final int[] kinds = new int[SEARCH_WORDS];
        private final long[] lefts = new long[SEARCH_WORDS];
        private final long[] rights = new long[SEARCH_WORDS];
        // One more than the set: 0 is where none is remembered.
        private final long[] memoKeys = new long[MEMO];
        private final long[] memoSets = new long[MEMO];
        private int memoCount;
        private int many;
        private long goalBit;
        private long noBit;
        private long askedParts;

        Decider(Parts parts) {
            this.parts = parts;
        }

        boolean decide(Hypotheses given, int goal) {
            takeParts();
            memoCount = 0;
            for (int i = 0; i < MEMO; i++) {
                memoKeys[i] = 0;
            }
            long known = 0;
            for (int k = 0; k < given.many; k++) {
                known |= bit(parts.spotOf(given.formulaOf(k)));
            }
            goalBit = bit(parts.spotOf(goal));
            askedParts = findAsked(known);
            return (close(known, 0) & goalBit) != 0;
        }

        private void takeParts() {
            many = Math.min(parts.many, SEARCH_WORDS);
            noBit = 0;
            for (int i = 0; i < many; i++) {
                kinds[i] = parts.kindAt(i);
                lefts[i] = kinds[i] < IMP ? 0 : bit(parts.leftAt(i));
                rights[i] = kinds[i] < IMP ? 0 : bit(parts.rightAt(i));
                if (kinds[i] == NO) {
                    noBit = bit(i);
                }
            }
        }

        private static long bit(int i) {
            return i >= 0 && i < SEARCH_WORDS ? 1L << i : 0L;
        }

        /** PARTS that stand where something is to be proved, not only where it is known. */
        private long findAsked(long known) {
            long asked = goalBit;
            long granted = known;
            for (int i = many - 1; i >= 0; i--) {
                boolean isImp = kinds[i] == IMP;
                if ((asked >>> i & 1) != 0) {
                    asked |= isImp ? rights[i] : lefts[i] | rights[i];
                    granted |= isImp ? lefts[i] : 0;
                }
                if ((granted >>> i & 1) != 0) {
                    granted |= isImp ? rights[i] : lefts[i] | rights[i];
                    asked |= isImp ? lefts[i] : 0;
                }
            }
            return asked;
        }

        /** All PARTS that matter and follow from a set. */
        private long close(long set, int deep) {
            long known = saturate(set);
            if ((known & noBit) != 0) {
                return ALL;
            }
            if (deep > DEEPEST) {
                return known;
            }
            int spot = memoSpot(known);
            if (spot >= 0 && spot < MEMO && memoKeys[spot] != 0) {
                return memoSets[spot];
            }
            int either = openOr(known);
            long all;
            if (either >= 0 && either < many) {
                all = close(known | lefts[either], deep + 1) & close(known | rights[either], deep + 1);
            } else {
                all = tryImps(known, deep);
            }
            remember(known, all);
            return all;
        }

        /** Tries imps in turn, till none of them has come into the set for a whole turn. */
        private long tryImps(long start, int deep) {
            long known = start;
            long matter = mattering(known);
            int idle = 0;
            for (int turn = 0; turn < many * (many + 1) && idle < many; turn++) {
                int i = turn % many;
                idle++;
                boolean open = kinds[i] == IMP && (known & (lefts[i] | 1L << i)) == 0;
                if (open && (matter >>> i & 1) != 0 && (close(known | lefts[i], deep + 1) & rights[i]) != 0) {
                    known = saturate(known | 1L << i);
                    if ((known & noBit) != 0 || openOr(known) != NONE) {
                        return close(known, deep + 1);
                    }
                    matter = mattering(known);
                    idle = 0;
                }
            }
            return known;
        }

        /** What may be asked of a set: the goal, where tried imps lead to, what known imps are from. */
        private long mattering(long known) {
            long matter = goalBit;
            for (int i = 0; i < many; i++) {
                if (kinds[i] == IMP) {
                    if ((askedParts >>> i & 1) != 0 && (known & lefts[i]) != 0) {
                        matter |= rights[i];
                    }
                    if ((known >>> i & 1) != 0 && (known & rights[i]) == 0) {
                        matter |= lefts[i];
                    }
                }
            }
            for (int i = many - 1; i >= 0; i--) {
                if (kinds[i] > IMP && (matter >>> i & 1) != 0) {
                    matter |= lefts[i] | rights[i];
                }
            }
            return matter;
        }

        /** An or in the set neither side of which is in it, or NONE. */
        private int openOr(long set) {
            for (int i = 0; i < many; i++) {
                if (kinds[i] == OR && (set >>> i & 1) != 0 && (set & (lefts[i] | rights[i])) == 0) {
                    return i;
                }
            }
            return NONE;
        }

        /** The set with all that follows without trying anything. */
        private long saturate(long set) {
            long known = set;
            for (int round = 0; round <= SEARCH_WORDS; round++) {
                long before = known;
                for (int i = 0; i < many; i++) {
                    if (kinds[i] >= IMP) {
                        known |= atOnce(known, i);
                    }
                }
                if (known == before) {
                    return known;
                }
            }
            return known;
        }

        /** What follows from a set by PART i alone, within it or not. */
        private long atOnce(long known, int i) {
            if (i < 0 || i >= SEARCH_WORDS) {
                return 0;
            }
            boolean within = (known >>> i & 1) != 0;
            boolean hasLeft = (known & lefts[i]) != 0;
            boolean hasRight = (known & rights[i]) != 0;
            switch (kinds[i]) {
                case IMP:
                    return hasRight ? 1L << i : within && hasLeft ? rights[i] : 0;
                case AND:
                    return within ? lefts[i] | rights[i] : hasLeft && hasRight ? 1L << i : 0;
                default:
                    return hasLeft || hasRight ? 1L << i : 0;
            }
        }

        /** Where a set is remembered, or would be; NONE if there is no room. */
        private int memoSpot(long key) {
            long mixed = key * 0x9E3779B97F4A7C15L;
            int spot = (int) (mixed >>> 40) & (MEMO - 1);
            for (int i = 0; i < MEMO; i++) {
                if (memoKeys[spot] == 0 || memoKeys[spot] == key + 1) {
                    return spot;
                }
                spot = (spot + 1) & (MEMO - 1);
            }
            return NONE;
        }

        private void remember(long key, long set) {
            int spot = memoSpot(key);
            if (memoCount < MEMO_FILL && spot >= 0 && spot < MEMO) {
                memoKeys[spot] = key + 1;
                memoSets[spot] = set;
                memoCount++;
            }
        }
    }
}
