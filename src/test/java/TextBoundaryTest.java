/** Texts and FAULTS: each sentence of the document's Terms that names a boundary case. */
public final class TextBoundaryTest {
    private static final String GIVEN = "h or p q; k imp p r; m imp q r; n no; b and p q;";
    private static final String[] KEPT = {"no", "not", "imp", "and", "or", "fun", "app", "pair", "fst", "snd", "inl", "inr", "case"};

    private static void given(String sentence) {
        Bench.says(sentence);
        Bench.hypotheses(5, GIVEN);
        Bench.proof(8, 0, "case h a app k a b app m b");
        Bench.proof(5, 2, "fst pair n fst b");
    }

    // ---- FORMULAS, HYPOTHESES, THE GOAL

    private static void atoms() {
        for (char c = 'a'; c <= 'z'; c++) {
            Bench.says("p | q | r | s | t | u | v | w (ATOMS): " + c);
            if (c >= 'p' && c <= 'w') {
                Bench.goal(1, "" + c);
                Bench.same("THE GOAL", Bench.goalSpelt(), "" + c);
            } else {
                Bench.faultyGoal(1, 0, "" + c);
            }
        }
        Bench.says("ATOMS are words of one letter");
        Bench.faultyGoal(1, 0, "pp");
        Bench.faultyGoal(1, 4, "imp pq r");
        Bench.says("no, imp, and, or stand where a FORMULA may begin, words of TERMS do not");
        Bench.goal(1, "no");
        Bench.goal(3, "imp no no");
        Bench.goal(3, "and p q");
        Bench.goal(3, "or p q");
        for (String word : new String[] {"fun", "app", "pair", "fst", "snd", "inl", "inr", "case", "abort"}) {
            Bench.faultyGoal(1, 0, word + " p");
            Bench.faultyGoal(1, 4, "imp " + word + " p");
        }
    }

    private static void formulas() {
        Bench.says("words with blanks between, one behind the other");
        Bench.goal(5, "imp and p q r");
        Bench.faultyGoal(1, 0, "");
        Bench.faultyGoal(1, 3, "not");
        Bench.faultyGoal(1, 3, "imp");
        Bench.faultyGoal(1, 5, "imp p");
        Bench.faultyGoal(1, 8, "and p q p");
        Bench.faultyGoal(1, 2, "p q");
        Bench.says("not FORMULA (that is imp FORMULA no)");
        Bench.goal(3, "not not p");
        Bench.same("THE GOAL", Bench.goalSpelt(), "imp imp p no no");
        Bench.hypotheses(3, "a p; b not p; c imp imp p no q;");
        Bench.proof(3, 0, "app b a");
        Bench.proves(0, "no");
        Bench.proof(3, 1, "app c b");
        Bench.proves(1, "q");
        Bench.faultyProof(5, 6, "app b b");
    }

    private static void hypothesesAndGoal() {
        Bench.says("HYPOTHESES: 6 at most");
        Bench.hypotheses(0, "");
        Bench.hypotheses(1, "a p;");
        Bench.hypotheses(6, "a p;b q;c r;d s;e t;f u;");
        Bench.proof(1, 3, "f");
        Bench.faultyHypotheses(4, 24, "a p;b q;c r;d s;e t;f u;g v;");
        Bench.faultyHypotheses(4, 28, " a p;b q;c r;d s;e t;f u;   g");
        Bench.says("THE GOAL: a FORMULA (p at first)");
        Bench.same("THE GOAL", Bench.goalSpelt(), "p");
        Bench.hypotheses(1, "a q;");
        Bench.same("THE GOAL", Bench.goalSpelt(), "p");
        Bench.faultyGoal(1, 1, "q;");
        Bench.same("THE GOAL", Bench.goalSpelt(), "p");
    }

    // ---- NAMES

    private static void scopes() {
        given("A NAME is that of the innermost fun, case around it that told it");
        Bench.proof(3, 1, "fun a p fun a q a");
        Bench.proves(1, "imp p imp q q");
        Bench.proof(5, 1, "fun a r case h a n a n");
        Bench.proves(1, "imp r no");
        Bench.proof(7, 1, "fun a r case h a inl q a a inr p a");
        Bench.proves(1, "imp r or p q");
        given("of fun in its TERM");
        Bench.proof(4, 1, "pair fun a p a n");
        Bench.faultyProof(3, 15, "pair fun a p a a");
        Bench.faultyProof(3, 4, "app a fun a p a");
        given("of case each in the TERM behind it");
        Bench.proof(6, 1, "case h a inl q a b inr p b");
        Bench.faultyProof(3, 5, "case a a n b n");
        Bench.faultyProof(3, 5, "case c a n c n");
        Bench.proof(4, 1, "case h a n c n");
        Bench.faultyProof(3, 9, "case h a c c n");
        Bench.faultyProof(3, 13, "case h a n c a");
        Bench.faultyProof(3, 20, "pair case h a n c n a");
        Bench.faultyProof(3, 20, "pair case h a n c n c");
        given("else of a HYPOTHESIS: hidden inside, itself behind");
        Bench.proof(4, 1, "pair fun h s h h");
        Bench.proves(1, "and imp s s or p q");
        Bench.term(1, "pair fun xa s xa h");
        Bench.proof(6, 1, "case h h inl q h m inr p m");
        Bench.proves(1, "or p q");
    }

    private static void nameLetters() {
        given("NAMES: words of 1 to 4 letters");
        Bench.hypotheses(2, "a p;abcd q;");
        Bench.proof(1, 1, "abcd");
        Bench.proof(2, 1, "fun wxyz p wxyz");
        Bench.proof(7, 1, "case inl q a bcde fun a p a fghi fun b p b");
        Bench.faultyHypotheses(1, 4, "a p;abcde p;");
        Bench.faultyHypotheses(1, 0, "abcdefgh p;");
        Bench.faultyProof(1, 0, "abcde");
        Bench.faultyProof(1, 4, "fun abcde p a");
        Bench.faultyProof(1, 13, "case inl q a abcde a b a");
        Bench.faultyProof(1, 17, "case inl q a a a abcde a");
        given("that are none of no, not, imp, and, or, fun, app, pair, fst, snd, inl, inr, case");
        for (String word : KEPT) {
            Bench.faultyHypotheses(1, 0, word + " p;");
            Bench.faultyHypotheses(1, 5, "a p; " + word + " p;");
            Bench.faultyProof(1, 4, "fun " + word + " p n");
            Bench.faultyProof(1, 7, "case h " + word + " n b n");
            Bench.faultyProof(1, 11, "case h a n " + word + " n");
        }
        given("a word of 4 letters that is none of these is a NAME, abort has 5");
        Bench.hypotheses(4, "nota p;ando p;cas p;fu p;");
        Bench.proof(3, 1, "pair cas fu");
        Bench.faultyHypotheses(1, 0, "abort p;");
        Bench.faultyProof(1, 4, "fun abort p fu");
    }

    private static void wordsByPlace() {
        given("ATOMS may be NAMES, too: what a word is hangs on where it stands");
        Bench.hypotheses(3, "p q;w imp q p;n no;");
        Bench.proof(3, 1, "app w p");
        Bench.proves(1, "p");
        Bench.proof(2, 1, "fun q q q");
        Bench.proves(1, "imp q q");
        Bench.proof(5, 1, "case inl p p p p q p");
        Bench.faultyProof(3, 0, "q");
        Bench.faultyGoal(1, 0, "n");
        given("words of FORMULAS can't begin a TERM");
        for (String word : new String[] {"no", "not", "imp", "and", "or"}) {
            Bench.faultyProof(1, 0, word);
            Bench.faultyProof(1, 5, "pair " + word + " n");
        }
        given("fun is told without a FORMULA");
        Bench.faultyProof(1, 6, "fun a a");
        given("inl, inr, abort are told without a FORMULA");
        Bench.faultyProof(1, 4, "inl n n");
        Bench.faultyProof(1, 4, "inr h n");
        Bench.faultyProof(1, 6, "abort n");
        given("fst, snd, app, pair, case are told with one");
        Bench.faultyProof(3, 4, "fst p b");
        Bench.faultyProof(1, 4, "snd and p q b");
        Bench.faultyProof(1, 4, "app imp p r k n");
    }

    // ---- TEXTS

    private static void bytes() {
        given("Words (a to z, as long as they go on), other bytes one by one");
        for (int sign : new int[] {0, 9, 10, 13, 31, 33, '@', 'A', 'Z', '[', 95, 96, 123, 127, 128, 160, 225, 255, '0', '-', ':', '(', ';'}) {
            char c = (char) sign;
            Bench.faultyGoal(1, 0, c + "");
            Bench.faultyGoal(1, 1, "p" + c);
            Bench.faultyGoal(1, 2, "p " + c);
            Bench.faultyGoal(1, 3, "imp" + c + "p q");
            Bench.faultyProof(1, 1, "n" + c);
            Bench.faultyProof(1, 4, "fun " + c + "a p a");
            Bench.faultyHypotheses(1, 1, "a" + c + " p;");
            Bench.faultyHypotheses(1, 4, "a p;" + c);
        }
        Bench.faultyHypotheses(1, 4, "a p;;b p;");
        Bench.faultyHypotheses(1, 0, ";");
        given("blanks (32) may stand between all");
        Bench.hypotheses(2, "   a   imp  p   q   ;   b   p  ;   ");
        Bench.hypotheses(2, "a p;b p;");
        Bench.goal(3, "   or   p   q   ");
        Bench.proof(3, 1, "   pair   a   b   ");
        Bench.hypotheses(0, "                      ");
        Bench.hypotheses(5, GIVEN);
        given("one at least between words");
        Bench.goal(2, "not p");
        Bench.faultyGoal(1, 0, "notp");
        Bench.faultyGoal(1, 4, "imp pq");
        Bench.faultyHypotheses(1, 2, "ap;");
        Bench.faultyProof(3, 5, "pair nn");
        Bench.faultyProof(1, 0, "pairn n");
    }

    private static void fullTape() {
        given("a text of one byte, and one as long as THE TAPE can be");
        Bench.goal(1, "w");
        Bench.goal(2, Bench.times(594, " ") + " not q");
        Bench.same("THE GOAL", Bench.goalSpelt(), "imp q no");
        Bench.faultyGoal(1, 600, Bench.times(600, " "));
        Bench.faultyGoal(1, 599, "p" + Bench.times(598, " ") + "q");
        Bench.proof(1, 1, Bench.times(599, " ") + "n");
        Bench.hypotheses(1, "a p" + Bench.times(596, " ") + ";");
    }

    // ---- FAULTS

    private static void faultPlaces() {
        given("1 what can't stand there (at it)");
        Bench.faultyGoal(1, 7, "imp p  abcde");
        Bench.faultyProof(1, 9, "pair n   imp");
        Bench.faultyProof(1, 3, "n  n");
        Bench.faultyHypotheses(1, 7, "a imp p;");
        Bench.faultyHypotheses(1, 5, "a p  q;");
        given("the end: how many bytes there are");
        Bench.faultyGoal(1, 0, "");
        Bench.faultyGoal(1, 4, "    ");
        Bench.faultyGoal(1, 9, "imp p    ");
        Bench.faultyHypotheses(1, 1, "a");
        Bench.faultyHypotheses(1, 3, "a p");
        Bench.faultyHypotheses(1, 6, "a p   ");
        Bench.faultyHypotheses(1, 6, "a p;b ");
        Bench.faultyProof(1, 0, "");
        Bench.faultyProof(1, 3, "fun");
        Bench.faultyProof(1, 5, "fun a");
        Bench.faultyProof(1, 7, "fun a p");
        Bench.faultyProof(1, 6, "pair n");
        Bench.faultyProof(1, 8, "case h a");
        Bench.faultyProof(1, 12, "case h a n b");
        Bench.faultyProof(1, 7, "abort p");
        Bench.says("the end is that of the first n bytes");
        Bench.feed("imp p q");
        Bench.is(7 + 13, "bytes", x -> x.count(2));
        Bench.does(-31, "goal(6)", x -> x.goal(6));
        Bench.is(6, "place", x -> x.fault(1));
        given("FAULTS, the first along the text");
        Bench.faultyProof(3, 5, "pair z imp");
        Bench.faultyProof(1, 5, "pair imp z");
        Bench.faultyHypotheses(2, 4, "a p;a p;Z");
        Bench.faultyHypotheses(1, 3, "a p:a p;");
        Bench.faultyHypotheses(4, 24, "a p;b q;c r;d s;e t;f u;g v;a p;");
        Bench.faultyHypotheses(2, 4, "a p;a q;c r;d s;e t;f u;g v;h p;");
    }

    private static void leastFault() {
        given("of one place the least: 1 ahead of 2, 4 at a NAME of HYPOTHESES");
        Bench.faultyHypotheses(1, 0, "xabcd p;");
        Bench.faultyHypotheses(1, 24, "a p;b q;c r;d s;e t;f u;no v;");
        Bench.faultyHypotheses(1, 24, "a p;b q;c r;d s;e t;f u;; ");
        given("of one place the least: 2 ahead of 4");
        Bench.faultyHypotheses(2, 24, "a p;b q;c r;d s;e t;f u;b v;");
        Bench.faultyHypotheses(2, 24, "a p;b q;c r;d s;e t;f u;xa v;");
        given("of one place the least: 1, 3 ahead of 4 at the 121st TERM");
        Bench.faultyProof(1, 420, Bench.times(60, "pair n "));
        Bench.faultyProof(1, 420, Bench.times(60, "pair n ") + "imp");
        Bench.faultyProof(1, 420, Bench.times(60, "pair n ") + "abcde");
        Bench.faultyProof(1, 420, Bench.times(60, "pair n ") + ";");
        Bench.faultyProof(3, 420, Bench.times(60, "pair n ") + "z");
        given("of one place the least: 1 ahead of 4 at the 31st word");
        Bench.faultyGoal(1, 120, Bench.times(30, "not "));
        Bench.faultyGoal(1, 120, Bench.times(30, "not ") + "x");
        Bench.faultyGoal(1, 120, Bench.times(30, "not ") + "fun");
        given("of one place the least: 1 ahead of 4 at the 25th NAME");
        Bench.faultyProof(1, 196, Bench.times(24, "fun a p ") + "fun not p a");
        Bench.faultyProof(1, 196, Bench.times(24, "fun a p ") + "fun abcde p a");
        Bench.faultyProof(1, 196, Bench.times(24, "fun a p ") + "fun ");
        Bench.faultyProof(1, 199, Bench.times(24, "fun a p ") + "case h or a b b");
    }

    private static void namesAgain() {
        given("2 a HYPOTHESIS's NAME that is told already");
        Bench.hypotheses(4, "a p;ab q;ba q;abab r;");
        Bench.faultyHypotheses(2, 4, "a p;a p;");
        Bench.faultyHypotheses(2, 12, "ab p;ba q;  ab r;");
        Bench.faultyHypotheses(2, 25, "a p;b q;c r;d s;e t;     e u;");
        given("told already: in this text, not in one ahead of it");
        Bench.hypotheses(1, "h q;");
        Bench.hypotheses(1, "h r;");
        given("or begins with x and has more letters");
        Bench.hypotheses(2, "x p;ax q;");
        Bench.faultyHypotheses(2, 0, "xa p;");
        Bench.faultyHypotheses(2, 0, "xx p;");
        Bench.faultyHypotheses(2, 0, "xab p;");
        Bench.faultyHypotheses(2, 5, "x p; xabc p;");
        given("these are told by fun, case as any");
        Bench.proof(3, 1, "fun xb p fun xb q xb");
        Bench.term(1, "fun xa p fun xb q xb");
        Bench.proof(6, 1, "case h xyzw inl q xyzw xyzw inr p xyzw");
        given("3 a NAME in a TERM that nobody told (at it)");
        Bench.faultyProof(3, 0, "z");
        Bench.faultyProof(3, 0, "x");
        Bench.faultyProof(3, 0, "xa");
        Bench.faultyProof(3, 7, "pair n hh");
        Bench.faultyProof(3, 8, "fun a p xa");
        Bench.faultyProof(3, 9, "fun ab p a");
    }

    private static String nots(int words) {
        return Bench.times(words - 1, "not ") + "p";
    }

    private static void formulaWords() {
        String longest = nots(30);
        String longer = nots(31);
        given("4 the 31st word of a FORMULA: of THE GOAL");
        Bench.goal(29, Bench.times(14, "or p ") + "q");
        Bench.goal(30, Bench.times(14, "or p ") + "not q");
        Bench.goal(30, longest);
        Bench.faultyGoal(4, 120, longer);
        Bench.faultyGoal(4, 75, Bench.times(15, "or p ") + "q");
        given("4 the 31st word of a FORMULA: of a HYPOTHESIS");
        Bench.hypotheses(1, "a " + longest + ";");
        Bench.hypotheses(3, "a " + longest + ";b " + longest + ";c " + longest + ";");
        Bench.faultyHypotheses(4, 122, "a " + longer + ";");
        Bench.faultyHypotheses(4, 242, "a " + longest + ";b " + longer + ";");
        given("4 the 31st word of a FORMULA: of fun, inl, inr, abort, each on its own");
        Bench.proof(2, 1, "fun a " + longest + " a");
        Bench.proof(2, 1, "inl " + longest + " n");
        Bench.proof(2, 1, "inr " + longest + " n");
        Bench.proof(2, 1, "abort " + longest + " n");
        Bench.proof(5, 1, "pair inl " + longest + " n inr " + longest + " n");
        Bench.faultyProof(4, 126, "fun a " + longer + " a");
        Bench.faultyProof(4, 124, "inl " + longer + " n");
        Bench.faultyProof(4, 124, "inr " + longer + " n");
        Bench.faultyProof(4, 126, "abort " + longer + " n");
        Bench.faultyProof(4, 253, "pair inl " + longest + " n inr " + longer + " n");
    }

    private static void terms() {
        given("4 the 121st TERM of a SLOT (at its first word)");
        Bench.proof(119, 1, Bench.times(59, "pair n ") + "n");
        Bench.proof(120, 1, Bench.times(59, "pair n ") + "fst b");
        Bench.proof(120, 1, "fun a p " + Bench.times(59, "pair n ") + "a");
        Bench.is(120, "NODES", x -> x.size(1, 0));
        String[] behind = {"n", "fun a p n", "app k fst b", "pair n n", "fst b", "snd b", "inl p n", "inr p n", "case h a n c n", "abort p n"};
        for (String term : behind) {
            Bench.faultyProof(4, 420, Bench.times(60, "pair n ") + term);
        }
        Bench.faultyProof(4, 421, Bench.times(59, "pair n ") + "fst fst n");
        Bench.proof(120, 1, Bench.times(59, "pair n ") + "snd   b");
        Bench.faultyProof(4, 425, Bench.times(59, "pair n ") + "fst     snd b");
    }

    private static void toldAround() {
        given("4 the NAME of a fun where 24 others of these are told around it (at it)");
        Bench.proof(25, 1, Bench.times(24, "fun a p ") + "a");
        Bench.faultyProof(4, 196, Bench.times(24, "fun a p ") + "fun a p a");
        Bench.faultyProof(4, 198, Bench.times(24, "fun a p ") + "fun   c p c");
        given("4 the NAME of a case where 24 others of these are told around it (at it)");
        Bench.proof(27, 1, Bench.times(23, "fun a p ") + "case h c n c n");
        Bench.faultyProof(4, 199, Bench.times(24, "fun a p ") + "case h c n c n");
        Bench.proof(73, 1, Bench.times(24, "case h a ") + "n" + Bench.times(24, " c n"));
        Bench.faultyProof(4, 223, Bench.times(25, "case h a ") + "n" + Bench.times(25, " c n"));
        Bench.proof(73, 1, Bench.times(24, "case h a n c ") + "n");
        Bench.faultyProof(4, 319, Bench.times(25, "case h a n c ") + "n");
        Bench.proof(49, 1, Bench.times(12, "fun a p ") + Bench.times(12, "case h a n c ") + "n");
        Bench.faultyProof(4, 256, Bench.times(12, "fun a p ") + Bench.times(12, "case h a n c ") + "fun d p n");
        given("names told beside, not around, are none of the 24");
        Bench.proof(51, 1, "pair " + Bench.times(24, "fun a p ") + "n " + Bench.times(24, "fun a p ") + "n");
        Bench.proof(30, 1, Bench.times(23, "fun a p ") + "case app fun a or p q a h c n c n");
    }

    // ---- FAULT 5

    private static void unfitApp() {
        given("of app the first must PROVE an imp");
        Bench.proof(4, 1, "app k fst b");
        Bench.proves(1, "r");
        Bench.faultyProof(5, 4, "app h n");
        Bench.faultyProof(5, 4, "app n n");
        Bench.faultyProof(5, 4, "app b n");
        Bench.faultyProof(5, 4, "app fst b n");
        Bench.faultyProof(5, 5, "app  inl p n n");
        given("then the second what that is from");
        Bench.proof(4, 1, "app m snd b");
        Bench.faultyProof(5, 6, "app m fst b");
        Bench.faultyProof(5, 6, "app k snd b");
        Bench.faultyProof(5, 6, "app k k");
        Bench.faultyProof(5, 21, "app fun a imp p q n  fun a p n");
        given("both have been asked by then");
        Bench.faultyProof(5, 10, "app h fst k");
        Bench.faultyProof(5, 10, "app k fst fst b");
        Bench.faultyProof(5, 8, "app fst k h");
        Bench.faultyProof(5, 8, "app fst k fst k");
    }

    private static void unfitOthers() {
        given("of fst, snd that in it must PROVE an and");
        Bench.proof(2, 1, "fst b");
        Bench.proof(2, 1, "snd b");
        for (String word : new String[] {"fst", "snd"}) {
            for (String term : new String[] {"h", "k", "n", "fst b", "snd b", "inl p b", "fun a p b"}) {
                Bench.faultyProof(5, 4, word + " " + term);
            }
        }
        given("of abort that in it must PROVE no");
        Bench.proof(2, 1, "abort p n");
        Bench.proof(2, 1, "abort no n");
        for (String term : new String[] {"h", "k", "b", "fst b", "fun a p n", "pair n n", "inl no n"}) {
            Bench.faultyProof(5, 8, "abort p " + term);
        }
        given("of case the first must PROVE an or (ahead of the two behind it being asked)");
        Bench.proof(4, 1, "case h a n c n");
        for (String term : new String[] {"k", "n", "b", "fst b", "fun a p h", "pair h h"}) {
            Bench.faultyProof(5, 5, "case " + term + " a n c n");
            Bench.faultyProof(5, 5, "case " + term + " a fst n c fst n");
        }
        Bench.faultyProof(5, 9, "case fst k a fst n c fst n");
        Bench.faultyProof(5, 13, "case h a fst a c fst c");
        Bench.faultyProof(5, 17, "case h a n c fst c");
        given("the last one what the one ahead of it does");
        Bench.proof(6, 1, "case h a inl q a c inr p c");
        Bench.faultyProof(5, 13, "case h a a c c");
        Bench.faultyProof(5, 19, "case h a inl q a c inl p c");
        Bench.faultyProof(5, 15, "case h a n c   c");
    }

    private static void firstUnfit() {
        given("TERMS are asked from the left on, each behind those in it");
        Bench.faultyProof(5, 9, "pair fst k fst k");
        Bench.faultyProof(5, 16, "pair n pair fst k abort p b");
        Bench.faultyProof(5, 10, "fst app k h");
        Bench.faultyProof(5, 18, "abort p app h fst n");
        Bench.faultyProof(5, 12, "fun a p fst a");
        given("If there are none of these: 5");
        Bench.faultyProof(3, 11, "pair fst k z");
        Bench.faultyProof(1, 6, "fst k k");
        Bench.faultyProof(1, 6, "fst k imp");
        Bench.faultyProof(1, 18, "pair fst k fun a p");
        Bench.faultyProof(4, 137, "pair fst k abort " + nots(31) + " n");
        Bench.faultyProof(4, 421, "pair fst k " + Bench.times(58, "pair n ") + "fst n");
    }

    public static void main(String[] args) {
        atoms();
        formulas();
        hypothesesAndGoal();
        scopes();
        nameLetters();
        wordsByPlace();
        bytes();
        fullTape();
        faultPlaces();
        leastFault();
        namesAgain();
        formulaWords();
        terms();
        toldAround();
        unfitApp();
        unfitOthers();
        firstUnfit();
        Bench.end();
    }
}
