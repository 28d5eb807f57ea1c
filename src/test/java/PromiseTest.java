/** For each promise of the document: ordinary inputs, the edges that it names, wrong inputs. */
public final class PromiseTest {
    private static int wrong = 0;
    private static int promise = 0;
    private static ProofTrim x;

    private static void due(String what, long got, long want) {
        if (got != want) {
            wrong++;
            System.out.println("promise " + promise + ": " + what + " answered " + got + ", due is " + want);
        }
    }

    private static void due(String what, String got, String want) {
        if (!got.equals(want)) {
            wrong++;
            System.out.println("promise " + promise + ": " + what + " answered '" + got + "', due is '" + want + "'");
        }
    }

    private static void begin(int number) {
        promise = number;
        x = new ProofTrim();
    }

    // ---- texts in and out

    private static void feed(String text) {
        for (int i = 0; i < text.length(); i += 20) {
            int[] v = new int[5];
            for (int k = 0; k < 20; k++) {
                v[k / 4] = v[k / 4] << 8 | (i + k < text.length() ? text.charAt(i + k) & 255 : 0);
            }
            x.feed(v[0], v[1], v[2], v[3], v[4]);
        }
    }

    private static int hypotheses(String text) {
        feed(text);
        return x.hypotheses(text.length());
    }

    private static int goal(String text) {
        feed(text);
        return x.goal(text.length());
    }

    private static int proof(int slot, String text) {
        feed(text);
        return x.proof(slot, text.length());
    }

    private static String spelt(int slot, int what) {
        StringBuilder b = new StringBuilder();
        for (int i = 0; i < x.length(slot, what); i++) {
            b.append((char) x.spell(slot, what, i));
        }
        due("the byte behind the last", x.spell(slot, what, x.length(slot, what)), -1);
        return b.toString();
    }

    private static String goalSpelt() {
        StringBuilder b = new StringBuilder();
        for (int i = 0; x.goalByte(i) >= 0; i++) {
            b.append((char) x.goalByte(i));
        }
        return b.toString();
    }

    private static String hypothesisSpelt(int k, int what) {
        StringBuilder b = new StringBuilder();
        for (int i = 0; x.hypothesis(k, what, i) >= 0; i++) {
            b.append((char) x.hypothesis(k, what, i));
        }
        return b.toString();
    }

    /** A LINE as RULE, FROM, DEEP and FORMULA. */
    private static String lineSpelt(int slot, int k) {
        StringBuilder b = new StringBuilder();
        for (int what = 0; what <= 4; what++) {
            b.append(x.line(slot, k, what)).append(' ');
        }
        for (int i = 0; x.lineByte(slot, k, i) >= 0; i++) {
            b.append((char) x.lineByte(slot, k, i));
        }
        return b.toString();
    }

    private static void faulty(String call, int answer, int kind, int place) {
        due(call, answer, -30 - kind);
        due(call + ", fault(0)", x.fault(0), kind);
        due(call + ", fault(1)", x.fault(1), place);
        due(call + ", bytes on the tape", x.count(2), 0);
    }

    private static void faultyHypotheses(String text, int kind, int place) {
        faulty("hypotheses '" + text + "'", hypotheses(text), kind, place);
    }

    private static void faultyGoal(String text, int kind, int place) {
        faulty("goal '" + text + "'", goal(text), kind, place);
    }

    private static void faultyProof(String text, int kind, int place) {
        faulty("proof '" + text + "'", proof(3, text), kind, place);
    }

    private static String times(int n, String text) {
        StringBuilder b = new StringBuilder();
        for (int i = 0; i < n; i++) {
            b.append(text);
        }
        return b.toString();
    }

    // ---- promises

    private static void newObject() {
        begin(1);
        due("count(0)", x.count(0), 0);
        due("count(1)", x.count(1), 0);
        due("count(2)", x.count(2), 0);
        due("goal", goalSpelt(), "p");
        for (int slot = 0; slot < 4; slot++) {
            due("size", x.size(slot, 0), -5);
        }
        due("NONE", ProofTrim.NONE, -1);
    }

    private static void feeding() {
        begin(2);
        for (int i = 1; i <= 30; i++) {
            due("feed " + i, x.feed(0x70202020, 0x20202020, 0x20202020, 0x20202020, 0x20202020), 20 * i);
        }
        due("feed beyond 600", x.feed(0, 0, 0, 0, 0), -4);
        due("bytes", x.count(2), 600);
        due("the first byte is the highest", x.goal(20), 1);
        due("feed again", x.feed(0, 0, 0, 0, 0x20202071), 20);
        faulty("zeros are no blanks", x.goal(20), 1, 0);
        x.feed(0x20202020, 0x20202020, 0x20202020, 0x20202020, 0x20202071);
        due("the last byte is the lowest of the last", x.goal(20), 1);
        due("goal", goalSpelt(), "q");
    }

    private static void tellingHypotheses() {
        begin(3);
        due("n below 0", x.hypotheses(-1), -3);
        due("n above", x.hypotheses(1), -3);
        feed("a p;");
        due("n above", x.hypotheses(21), -3);
        due("the tape stays", x.count(2), 20);
        due("one", x.hypotheses(4), 1);
        due("the tape is empty", x.count(2), 0);
        due("none", x.hypotheses(0), 0);
        due("six", hypotheses("a p;b q ; c no;d not p;p p;x w;"), 6);
        goal("q");
        due("a proof", proof(1, "b"), 1);
        due("slots", x.count(1), 2);
        faultyHypotheses("a p;b q;a r;", 2, 8);
        due("a fault changes nothing", x.count(0), 6);
        due("a fault changes nothing", x.count(1), 2);
        due("told anew", hypotheses("  name   imp p  q  ;  "), 1);
        due("slots are empty then", x.count(1), 0);
        due("the goal stays", goalSpelt(), "q");
        due("fault(0)", x.fault(0), 0);
        due("fault(1)", x.fault(1), -1);
        hypothesesFaults();
    }

    private static void hypothesesFaults() {
        faultyHypotheses("a", 1, 1);
        faultyHypotheses("a  ", 1, 3);
        faultyHypotheses("a p", 1, 3);
        faultyHypotheses("a p q;", 1, 4);
        faultyHypotheses("a p:", 1, 3);
        faultyHypotheses("a p,b q;", 1, 3);
        faultyHypotheses(";", 1, 0);
        faultyHypotheses("a p;;", 1, 4);
        faultyHypotheses("abcde p;", 1, 0);
        faultyHypotheses("abort p;", 1, 0);
        for (String word : new String[] {"no", "not", "imp", "and", "or", "fun", "app", "pair", "fst", "snd", "inl", "inr", "case"}) {
            faultyHypotheses(word + " p;", 1, 0);
        }
        faultyHypotheses("a x;", 1, 2);
        faultyHypotheses("a pq;", 1, 2);
        faultyHypotheses("a P;", 1, 2);
        faultyHypotheses("A p;", 1, 0);
        faultyHypotheses("a" + (char) 225 + " p;", 1, 1);
        faultyHypotheses("a p;xa p;", 2, 4);
        faultyHypotheses("xabc p;", 2, 0);
        faultyHypotheses("xabcd p;", 1, 0);
        faultyHypotheses("a p;b p;c p;d p;e p;f p;g p;", 4, 24);
        faultyHypotheses("a p;b p;c p;d p;e p;f p;a p;", 2, 24);
        faultyHypotheses("a p;b p;c p;d p;e p;f p;xx p;", 2, 24);
        faultyHypotheses("a p;b p;c p;d p;e p;f p;no p;", 1, 24);
        faultyHypotheses("a " + times(30, "not ") + "p;", 4, 122);
        faultyHypotheses("a " + times(30, "not ") + "x;", 1, 122);
        due("30 words", hypotheses("a " + times(29, "not ") + "p;"), 1);
    }

    private static void tellingGoal() {
        begin(4);
        due("n below 0", x.goal(-1), -3);
        due("n above", x.goal(1), -3);
        due("words", goal(" or  not p imp no and q w "), 8);
        due("goal", goalSpelt(), "or imp p no imp no and q w");
        faultyGoal("", 1, 0);
        faultyGoal("  ", 1, 2);
        faultyGoal("imp p", 1, 5);
        faultyGoal("p q", 1, 2);
        faultyGoal("p;", 1, 1);
        faultyGoal("and p x", 1, 6);
        faultyGoal("andp q", 1, 0);
        due("the goal stays", goalSpelt(), "or imp p no imp no and q w");
        faultyGoal(times(31, "not ") + "p", 4, 120);
        faultyGoal(times(30, "not "), 1, 120);
        due("30 words", goal(times(14, "or p ") + "not p"), 30);
        due("hidden bytes behind n", goal("q"), 1);
        feed("pqr");
        due("the first n bytes alone", x.goal(1), 1);
        due("goal", goalSpelt(), "p");
    }

    private static void tellingProof() {
        begin(5);
        hypotheses("h or p q; k imp p r; m imp q r; n no; b and p q;");
        due("slot", x.proof(4, 0), -2);
        due("slot", x.proof(-1, 99), -2);
        due("n below 0", x.proof(0, -1), -3);
        due("n above", x.proof(0, 1), -3);
        due("nodes", proof(0, "case h a app k a b app m b"), 8);
        due("in place of what it had", proof(0, "inl q fst b"), 3);
        due("a NAME that hides a HYPOTHESIS", proof(0, "fun h p h"), 2);
        due("atoms as NAMES", proof(0, "fun p p p"), 2);
        due("the innermost", proof(0, "fun a p fun a q app m a"), 5);
        faultyProof("", 1, 0);
        faultyProof("h h", 1, 2);
        faultyProof("imp", 1, 0);
        faultyProof("abcde", 1, 0);
        faultyProof("fun fun p h", 1, 4);
        faultyProof("fun a h h", 1, 6);
        faultyProof("fun a p b;", 1, 9);
        faultyProof("fun a p", 1, 7);
        faultyProof("case h a k b", 1, 12);
        faultyProof("z", 3, 0);
        faultyProof("pair fun a p a a", 3, 15);
        faultyProof("case a a a b b", 3, 5);
        faultyProof("case h a b b a", 3, 13);
        proofLimits();
        proofChecks();
        due("slots", x.count(1), 1);
    }

    private static void proofLimits() {
        due("24 NAMES", proof(1, times(24, "fun a p ") + "a"), 25);
        faultyProof(times(25, "fun a p ") + "a", 4, 196);
        faultyProof(times(24, "fun a p ") + "fun no p a", 1, 196);
        faultyProof(times(24, "fun a p ") + "case h a a b b", 4, 199);
        faultyProof(times(23, "fun a p ") + "case h a a b b", 5, 197);
        due("120 TERMS", proof(1, times(59, "pair n ") + "fst b"), 120);
        faultyProof(times(60, "pair n ") + "n", 4, 420);
        faultyProof(times(60, "pair n ") + "z", 3, 420);
        faultyProof(times(60, "pair n ") + "no", 1, 420);
        faultyProof(times(60, "pair n "), 1, 420);
        due("30 words", proof(1, "abort " + times(29, "not ") + "p n"), 2);
        faultyProof("abort " + times(30, "not ") + "p n", 4, 126);
        due("drop", x.drop(1), 2);
    }

    private static void proofChecks() {
        faultyProof("app h k", 5, 4);
        faultyProof("app k h", 5, 6);
        faultyProof("app h fst k", 5, 10);
        faultyProof("fst k", 5, 4);
        faultyProof("snd snd b", 5, 4);
        faultyProof("abort p k", 5, 8);
        faultyProof("case k a fst a b b", 5, 5);
        faultyProof("case h a fst a b b", 5, 13);
        faultyProof("case h a a b b", 5, 13);
        faultyProof("pair fst k fst k", 5, 9);
        faultyProof("app fun a p a abort q n", 5, 14);
    }

    private static void faults() {
        begin(6);
        due("fault(0)", x.fault(0), 0);
        due("fault(1)", x.fault(1), -1);
        due("fault(2)", x.fault(2), -1);
        due("fault(-1)", x.fault(-1), -1);
        faultyGoal("p  no", 1, 3);
        x.goal(9);
        x.proof(7, 0);
        due("calls that left the tape alone", x.fault(0), 1);
        due("calls that left the tape alone", x.fault(1), 3);
        due("of no byte", x.hypotheses(0), 0);
        due("fault(0)", x.fault(0), 0);
        due("fault(1)", x.fault(1), -1);
    }

    private static void dropping() {
        begin(7);
        hypotheses("a p;");
        proof(2, "pair a a");
        due("drop(4)", x.drop(4), -2);
        due("drop(-1)", x.drop(-1), -2);
        due("drop(1)", x.drop(1), 0);
        due("drop(2)", x.drop(2), 3);
        due("drop(2) again", x.drop(2), 0);
        due("count(1)", x.count(1), 0);
    }

    private static void counting() {
        begin(8);
        hypotheses("a p;b q;");
        proof(0, "a");
        proof(3, "fst pair fst pair a b b");
        feed("abc");
        due("count(0)", x.count(0), 2);
        due("count(1)", x.count(1), 9);
        due("count(2)", x.count(2), 20);
        due("count(3)", x.count(3), 0);
        x.normal(3);
        due("count(3)", x.count(3), 2);
        x.normal(1);
        x.hypotheses(0);
        due("count(3), whatever came since", x.count(3), 2);
        due("count(4)", x.count(4), -1);
        due("count(-1)", x.count(-1), -1);
    }

    private static void showingHypotheses() {
        begin(9);
        hypotheses("a not p; name or p imp q no;");
        due("NAME 0", hypothesisSpelt(0, 0), "a");
        due("NAME 1", hypothesisSpelt(1, 0), "name");
        due("FORMULA 0", hypothesisSpelt(0, 1), "imp p no");
        due("FORMULA 1", hypothesisSpelt(1, 1), "or p imp q no");
        due("behind", x.hypothesis(1, 0, 4), -1);
        due("far behind", x.hypothesis(1, 1, Integer.MAX_VALUE), -1);
        due("k", x.hypothesis(2, 0, -1), -2);
        due("k", x.hypothesis(-1, 0, 0), -2);
        due("what", x.hypothesis(0, 2, 0), -2);
        due("what", x.hypothesis(0, -1, 0), -2);
        due("i", x.hypothesis(0, 0, -1), -3);
    }

    private static void showingGoal() {
        begin(10);
        due("goalByte(-1)", x.goalByte(-1), -3);
        due("goalByte(1)", x.goalByte(1), -1);
        goal("and no not imp s t");
        due("goal", goalSpelt(), "and no imp imp s t no");
        due("far behind", x.goalByte(Integer.MAX_VALUE), -1);
    }

    private static void spelling() {
        begin(11);
        hypotheses("x or p q; n no; h p;");
        proof(0, "fun h not p case x a app fun b q abort r n abort q n b abort r n");
        due("TERM", spelt(0, 0), "fun xa imp p no case x xb app fun xc q abort r n abort q n xb abort r n");
        due("PROGRAM", spelt(0, 1), "fun xa case x xb app fun xc abort n abort n xb abort n");
        due("FORMULA", spelt(0, 2), "imp imp p no r");
        proof(1, "pair fun h p pair h inl q h fun a q inr p a");
        due("TERM", spelt(1, 0), "pair fun xa p pair xa inl q xa fun xa q inr p xa");
        due("PROGRAM", spelt(1, 1), "pair fun xa pair xa inl xa fun xa inr xa");
        due("FORMULA", spelt(1, 2), "and imp p and p or p q imp q or p q");
        due("slot", x.spell(4, 0, -1), -2);
        due("what", x.spell(0, 3, -1), -2);
        due("what", x.spell(2, -1, 0), -2);
        due("i", x.spell(2, 0, -1), -3);
        due("empty", x.spell(2, 0, 0), -5);
        due("far behind", x.spell(0, 0, Integer.MAX_VALUE), -1);
        manyNames();
    }

    /** A cut under 24 NAMES: more than 26 of them. */
    private static void manyNames() {
        x.drop(0);
        proof(0, times(24, "fun a q ") + "h");
        proof(1, "app fun a p app fun b p app fun c p c b a h");
        due("cut", x.cut(0, 2, 1, 2), 34);
        String text = spelt(2, 1);
        String tail = "fun xx app fun xy app fun xz app fun xba xba xz xy h";
        due("PROGRAM", text.substring(text.length() - tail.length()), tail);
    }

    private static void lengths() {
        begin(12);
        hypotheses("n no;");
        proof(1, "abort or p q n");
        due("length(1, 0)", x.length(1, 0), 14);
        due("length(1, 1)", x.length(1, 1), 7);
        due("length(1, 2)", x.length(1, 2), 6);
        due("length(1, 3)", x.length(1, 3), -2);
        due("length(1, -1)", x.length(1, -1), -2);
        due("length(4, 0)", x.length(4, 0), -2);
        due("length(0, 0)", x.length(0, 0), -5);
        due("length(0, 3)", x.length(0, 3), -2);
    }

    private static void sizes() {
        begin(13);
        hypotheses("a p; b and q r; c imp p q;");
        goal("and r q");
        proof(0, "pair snd b app c a");
        due("NODES", x.size(0, 0), 6);
        due("within one another", x.size(0, 1), 3);
        due("HYPOTHESES", x.size(0, 2), 7);
        due("unlike FORMULAS", x.size(0, 3), 6);
        due("STRAY", x.size(0, 4), 0);
        due("PROVES THE GOAL", x.size(0, 5), 1);
        due("NORMAL", x.size(0, 6), 1);
        proof(1, "fst pair a fun a q pair a a");
        due("HYPOTHESES, one hidden", x.size(1, 2), 1);
        due("unlike FORMULAS", x.size(1, 3), 5);
        due("STRAY", x.size(1, 4), 3);
        due("PROVES THE GOAL", x.size(1, 5), 0);
        due("NORMAL", x.size(1, 6), 0);
        due("what", x.size(2, 7), -2);
        due("what", x.size(0, -1), -2);
        due("slot", x.size(4, 0), -2);
        due("empty", x.size(2, 6), -5);
        goal("p");
        due("PROVES THE GOAL now", x.size(1, 5), 1);
    }

    private static void countingRedexes() {
        begin(14);
        hypotheses("a p; d or p q; n no; f and p q;");
        String[] texts = {"app fun b p b a", "fst pair a n", "snd pair n a", "case inl q a b b c a", "case inr q a b a c c",
            "fst case d b pair a a c pair a a", "fst abort and p p n"};
        for (int kind = 1; kind <= 7; kind++) {
            proof(0, texts[kind - 1]);
            for (int asked = 1; asked <= 7; asked++) {
                due(texts[kind - 1] + ", kind " + asked, x.redexes(0, asked), asked == kind ? 1 : 0);
            }
            due("all", x.redexes(0, 0), 1);
        }
        String[] six = {"app case d b fun e p a c fun e p a a", "snd case d b f c f", "case case d b d c d b a c a", "abort p case d b n c n"};
        String[] seven = {"app abort imp p q n a", "snd abort and p p n", "case abort or p q n b a c a", "abort p abort no n"};
        for (int i = 0; i < 4; i++) {
            proof(0, six[i]);
            due(six[i], x.redexes(0, 6), 1);
            proof(0, seven[i]);
            due(seven[i], x.redexes(0, 7), 1);
        }
        proof(0, "app fun b p fst pair b b snd pair a a");
        due("all", x.redexes(0, 0), 3);
        proof(0, "app fun e or p q a case d b d c d");
        due("a case as the second of app is no redex", x.redexes(0, 6), 0);
        due("kind", x.redexes(0, 8), -2);
        due("kind", x.redexes(1, -1), -2);
        due("slot", x.redexes(-1, 0), -2);
        due("empty", x.redexes(1, 0), -5);
    }

    private static void stepTo(int kind, String text, String becomes) {
        due("nodes of " + text, proof(0, text) > 0 ? 1 : 0, 1);
        due("step of " + text, x.step(0), kind);
        due("behind " + text, spelt(0, 0), becomes);
    }

    private static void steps() {
        begin(15);
        hypotheses("a p; d or p q; n no; f and p q; g imp p q;");
        stepTo(1, "app fun b p pair b b a", "pair a a");
        stepTo(1, "fun b p app fun c p fun e q c b", "fun xa p fun xb q xa");
        stepTo(1, "fun b p app fun c imp p p fun e q app c b fun e p b",
            "fun xa p fun xb q app fun xc p xa xa");
        stepTo(2, "fst pair a n", "a");
        stepTo(3, "snd pair n a", "a");
        stepTo(4, "case inl q a b pair b b c pair a a", "pair a a");
        stepTo(5, "fun e q case inr p e b a c fst pair a fun h p c", "fun xa q fst pair a fun xb p xa");
        stepTo(6, "fun e p snd case d b f c f", "fun xa p case d xb snd f xb snd f");
        stepTo(6, "app case d b fun e p b c fun e p e fst f",
            "case d xa app fun xb p xa fst f xa app fun xb p xb fst f");
        stepTo(6, "case case d b inl no b c inr p n e e h abort p h",
            "case d xa case inl no xa xb xb xb abort p xb xa case inr p n xb xb xb abort p xb");
        stepTo(6, "abort r case d b n c n", "case d xa abort r n xa abort r n");
        stepTo(7, "app abort imp p q n a", "abort q n");
        stepTo(7, "fst abort and p q n", "abort p n");
        stepTo(7, "snd abort and p q n", "abort q n");
        stepTo(7, "case abort or p q n b pair b a c pair a a", "abort and p p n");
        stepTo(7, "abort r abort no n", "abort r n");
        stepTo(1, "pair a app fun b p b a", "pair a a");
        stepTo(2, "fst pair app fun b p b a a", "app fun xa p xa a");
        stepTo(0, "case d b app g b c c", "case d xa app g xa xa xa");
        due("slot", x.step(4), -2);
        due("empty", x.step(1), -5);
        String grows = "app fun e no pair e pair e pair e e " + times(48, "abort no ") + "n";
        due("grows", proof(0, grows), 58);
        due("199", x.step(0), 1);
        due("199", x.size(0, 0), 199);
        due("grows", proof(0, "app fun e no pair e pair e pair e e " + times(49, "abort no ") + "n"), 59);
        due("more than 200", x.step(0), -4);
        due("the SLOT stays", x.size(0, 0), 59);
    }

    private static void normalising() {
        begin(16);
        hypotheses("h p; g q; n no;");
        proof(0, times(39, "fst pair ") + "h" + times(39, " g"));
        proof(1, times(21, "fst pair ") + "h" + times(21, " g"));
        proof(2, "fst pair h g");
        due("60 redexes", x.cut(0, 0, 1, 3), 181);
        due("61 redexes", x.cut(3, 0, 2, 2), 184);
        due("60 STEPS", x.normal(3), 60);
        due("TERM", spelt(3, 0), "h");
        due("more than 60 STEPS", x.normal(2), -4);
        due("the SLOT stays", x.size(2, 0), 184);
        due("alike, too many STEPS", x.alike(3, 2), -4);
        due("alike, too many STEPS", x.alike(2, 3), -4);
        due("the trace is of the latest that was not refused", x.count(3), 60);
        due("one STEP less", x.step(2), 2);
        due("alike", x.alike(3, 2), 1);
        proof(0, "app fun e no pair e pair e pair e e " + times(49, "abort no ") + "n");
        due("more than 200 NODES behind one", x.normal(0), -4);
        due("alike", x.alike(0, 0), -4);
        due("normal already", x.normal(3), 0);
        due("slot", x.normal(4), -2);
        x.drop(1);
        due("empty", x.normal(1), -5);
    }

    private static void tracing() {
        begin(17);
        due("ahead of any", x.trace(0), -2);
        hypotheses("h or and p q and p r; f p;");
        proof(0, "fst case h x pair fst x fst x y pair fst y fst y");
        due("normal", x.normal(0), 3);
        due("trace(0)", x.trace(0), 6);
        due("trace(1)", x.trace(1), 2);
        due("trace(2)", x.trace(2), 2);
        due("trace(3)", x.trace(3), -2);
        due("trace(-1)", x.trace(-1), -2);
        proof(1, "app fun a p a f");
        x.alike(1, 1);
        x.side(1);
        x.normal(2);
        due("other calls leave it", x.trace(0), 6);
        x.normal(1);
        due("trace(0)", x.trace(0), 1);
        due("trace(1)", x.trace(1), -2);
    }

    private static void cutting() {
        begin(18);
        hypotheses("a p; n no; f imp p q;");
        proof(0, "fun b q pair a fun c p pair b a");
        proof(1, "app fun e p e a");
        due("cut", x.cut(0, 0, 1, 2), 13);
        due("TERM", spelt(2, 0), "fun xa q pair app fun xb p xb a fun xb p pair xa app fun xc p xc a");
        due("another FORMULA, no such NAME in it", x.cut(0, 1, 1, 3), -5);
        proof(3, "n");
        due("no such NAME in it", x.cut(0, 1, 3, 0), 7);
        due("into itself", x.cut(1, 0, 1, 1), 7);
        due("TERM", spelt(1, 0), "app fun xa p xa app fun xa p xa a");
        due("-2", x.cut(4, 0, 1, 2), -2);
        due("-2", x.cut(0, 0, -1, 2), -2);
        due("-2", x.cut(0, 0, 1, 4), -2);
        due("-2", x.cut(0, 3, 1, 2), -2);
        due("-2", x.cut(0, -1, 1, 2), -2);
        x.drop(2);
        due("-5", x.cut(2, 0, 1, 2), -5);
        due("-5", x.cut(0, 0, 2, 2), -5);
        due("-5: another FORMULA", x.cut(0, 2, 1, 2), -5);
        String deep = times(66, "abort no ") + "n";
        due("nodes", proof(0, deep), 67);
        due("133", x.cut(0, 1, 0, 1), 133);
        due("199", x.cut(1, 1, 0, 2), 199);
        due("nodes", proof(0, "abort no n"), 2);
        due("nodes", proof(1, "abort no abort no n"), 3);
        due("201", x.cut(2, 1, 1, 3), -4);
        due("the SLOT stays", x.size(3, 0), 1);
        due("200", x.cut(2, 1, 0, 3), 200);
        due("200 within one another", x.size(3, 1), 200);
        due("redexes", x.redexes(3, 7), 198);
        due("lines", x.lines(3), 202);
        due("length", x.length(3, 0), 9 * 199 + 1);
        due("step", x.step(3), 7);
        due("199", x.size(3, 0), 199);
    }

    private static void numberingLines() {
        begin(19);
        hypotheses("h or p q; k imp p r; m imp q r;");
        proof(0, "case h a app k a b app m b");
        due("lines", x.lines(0), 8);
        proof(1, "h");
        due("a NAME has none", x.lines(1), 3);
        due("slot", x.lines(4), -2);
        due("empty", x.lines(2), -5);
    }

    private static void showingLines() {
        begin(20);
        hypotheses("h or p q; n no;");
        proof(0, "fun f imp p q case h a app f a b snd pair inl p b b");
        String[] due = {"0 -1 -1 -1 0 or p q", "0 -1 -1 -1 0 no", "1 -1 -1 -1 1 imp p q", "1 -1 -1 -1 2 p", "3 2 3 -1 2 q", "1 -1 -1 -1 2 q",
            "7 5 -1 -1 2 or q p", "4 6 5 -1 2 and or q p q", "6 7 -1 -1 2 q", "9 0 4 8 1 q", "2 2 9 -1 0 imp imp p q q"};
        for (int k = 0; k < due.length; k++) {
            due("line " + k, lineSpelt(0, k), due[k]);
        }
        proof(1, "inr p fst pair abort q n fun a r a");
        String[] others = {"10 1 -1 -1 0 q", "1 -1 -1 -1 1 r", "2 3 3 -1 0 imp r r", "4 2 4 -1 0 and q imp r r", "5 5 -1 -1 0 q", "8 6 -1 -1 0 or p q"};
        for (int k = 0; k < others.length; k++) {
            due("line " + (k + 2), lineSpelt(1, k + 2), others[k]);
        }
        due("slot ahead of all", x.line(4, -1, 9), -2);
        due("empty ahead of k", x.line(2, -1, 9), -5);
        due("k", x.line(0, 11, 0), -2);
        due("k", x.line(0, -1, 0), -2);
        due("what", x.line(0, 0, 5), -2);
        due("what", x.line(0, 0, -1), -2);
    }

    private static void lineBytes() {
        begin(21);
        hypotheses("h and p q;");
        proof(0, "fst h");
        due("byte", x.lineByte(0, 1, 0), 'p');
        due("behind", x.lineByte(0, 1, 1), -1);
        due("slot", x.lineByte(4, 0, -1), -2);
        due("empty", x.lineByte(1, 9, -1), -5);
        due("k", x.lineByte(0, 2, -1), -2);
        due("k", x.lineByte(0, -1, 0), -2);
        due("i", x.lineByte(0, 0, -1), -3);
        doubledFormula();
    }

    /** Cases that make a FORMULA four times as large, time and again: it is never written out. */
    private static void doubledFormula() {
        int levels = 11;
        hypotheses("a " + times(29, "not ") + "p; h q;");
        StringBuilder text = new StringBuilder();
        String name = "a";
        for (int i = 0; i < levels; i++) {
            String next = "c" + (char) ('a' + i);
            text.append("case inl p pair pair " + name + " " + name + " pair " + name + " " + name + " " + next + " ");
            name = next;
        }
        due("nodes", proof(0, text + "h" + times(levels, " b h")), 10 * levels + 1);
        long bytes = 29 * 4 + 1 + 29 * 3;
        for (int i = 0; i < levels; i++) {
            bytes = 4 * bytes + 15;
        }
        int taken = -1;
        for (int k = 0; k < x.lines(0); k++) {
            if (x.line(0, k, 0) == 1 && x.line(0, k, 4) == levels && taken < 0) {
                taken = k;
            }
        }
        due("first byte", x.lineByte(0, taken, 0), 'a');
        due("last byte", x.lineByte(0, taken, (int) bytes - 1), 'o');
        due("the blank in the middle", x.lineByte(0, taken, (int) (bytes - (bytes - 5) / 2 - 1)), ' ');
        due("behind", x.lineByte(0, taken, (int) bytes), -1);
        due("unlike FORMULAS", x.size(0, 3), 2 + 3 * levels);
        due("what it PROVES", spelt(0, 2), "q");
    }

    private static void comparing() {
        begin(22);
        hypotheses("a p; b p; d or p p;");
        proof(0, "fun a p pair a b");
        proof(1, "fun zz p pair zz b");
        proof(2, "fun a p pair a a");
        due("other NAMES", x.equal(0, 1), 1);
        due("other TERMS", x.equal(0, 2), 0);
        due("itself", x.equal(0, 0), 1);
        proof(1, "inl q a");
        proof(2, "inl r a");
        due("other FORMULAS", x.equal(1, 2), 0);
        due("slot", x.equal(3, 4), -2);
        due("slot", x.equal(-1, 3), -2);
        due("empty", x.equal(0, 3), -5);
        due("empty", x.equal(3, 0), -5);
    }

    private static void comparingNormal() {
        begin(23);
        hypotheses("a p; b p;");
        proof(0, "app fun c p pair c b a");
        proof(1, "snd pair b fst pair pair a b a");
        due("alike", x.alike(0, 1), 1);
        due("the same", x.equal(0, 1), 0);
        due("SLOTS stay", x.size(0, 0), 6);
        due("SLOTS stay", x.size(1, 0), 9);
        proof(2, "pair b a");
        due("unlike", x.alike(0, 2), 0);
        due("slot", x.alike(3, 4), -2);
        due("slot", x.alike(-1, 3), -2);
        due("empty", x.alike(0, 3), -5);
    }

    private static void sides() {
        begin(24);
        hypotheses("a p; d or p q; n no;");
        proof(0, "snd pair a inl q a");
        due("inl", x.side(0), 0);
        due("the SLOT stays", x.size(0, 0), 5);
        proof(0, "case d b inr q b c inl p c");
        due("neither", x.side(0), -1);
        proof(0, "case inl q a b inr q b c inl p c");
        due("inr", x.side(0), 1);
        proof(0, "d");
        due("neither", x.side(0), -1);
        proof(0, "abort or p q n");
        due("neither", x.side(0), -1);
        proof(0, "a");
        due("no or", x.side(0), -5);
        due("empty", x.side(1), -5);
        due("slot", x.side(4), -2);
        proof(0, "inl q app fun e no fst pair a pair e pair e pair e e " + times(49, "abort no ") + "n");
        due("too many", x.side(0), -4);
    }

    private static void searching() {
        begin(25);
        due("p", x.provable(), 0);
        goal("imp p p");
        due("imp p p", x.provable(), 1);
        goal("or p not p");
        due("or p not p", x.provable(), 0);
        goal("not not or p not p");
        due("not not or p not p", x.provable(), 1);
        hypotheses("a or p not p;");
        goal("imp not not p p");
        due("from or p not p", x.provable(), 1);
        hypotheses("a " + times(8, "not ") + "p; b " + times(8, "not ") + "p;");
        goal("imp p or p q");
        due("39 words", x.provable(), 1);
        goal("not or p q");
        due("39 words", x.provable(), 0);
        goal("imp p imp p or p q");
        due("41 words", x.provable(), -4);
        hypotheses("a " + times(8, "not ") + "p; b " + times(8, "not ") + "p; c p;");
        goal("imp p or p q");
        due("40 words", x.provable(), 1);
    }

    private static void searchingSides() {
        begin(26);
        due("side", x.bySide(2), -2);
        due("side", x.bySide(-1), -2);
        due("no or", x.bySide(0), -5);
        hypotheses("a p;");
        goal("or q imp q p");
        due("bySide(0)", x.bySide(0), 0);
        due("bySide(1)", x.bySide(1), 1);
        hypotheses("a " + times(8, "not ") + "p; b " + times(8, "not ") + "p; c p;");
        goal("or p and p q");
        due("40 words", x.bySide(0), 1);
        due("40 words", x.bySide(1), 0);
        goal("or p imp p not q");
        due("42 words, fewer by that side", x.bySide(0), -4);
        due("side", x.bySide(2), -2);
        goal("imp p imp p imp p or p q");
        due("no or", x.bySide(0), -5);
    }

    private static void truth() {
        begin(27);
        due("p", x.classical(), 0);
        goal("imp imp imp p q p p");
        due("Peirce", x.classical(), 1);
        goal("w");
        hypotheses("a or w v; b imp v w;");
        due("w", x.classical(), 1);
        hypotheses("a p; b not p;");
        due("from p, not p", x.classical(), 1);
        hypotheses("a " + times(29, "not ") + "w; b " + times(28, "not ") + "w;");
        due("many words", x.classical(), 1);
    }

    private static void refuting() {
        begin(28);
        due("p", x.against(), 0);
        goal("not and p w");
        due("not and p w", x.against(), 129);
        goal("or p not p");
        due("or p not p", x.against(), -1);
        goal("no");
        for (int atom = 0; atom < 8; atom++) {
            hypotheses("a " + (char) ('p' + atom) + ";");
            due("atom " + atom, x.against(), 1 << atom);
        }
        hypotheses("a or v w; b imp v or u t; c not u;");
        due("the least", x.against(), 16 + 64);
        hypotheses("a or w and p and q and r and s and t u;");
        due("the least number, not the fewest", x.against(), 63);
        hypotheses("a no;");
        due("no set at all", x.against(), -1);
    }

    public static void main(String[] args) {
        newObject();
        feeding();
        tellingHypotheses();
        tellingGoal();
        tellingProof();
        faults();
        dropping();
        counting();
        showingHypotheses();
        showingGoal();
        spelling();
        lengths();
        sizes();
        countingRedexes();
        steps();
        normalising();
        tracing();
        cutting();
        numberingLines();
        showingLines();
        lineBytes();
        comparing();
        comparingNormal();
        sides();
        searching();
        searchingSides();
        truth();
        refuting();
        System.out.println(wrong == 0 ? "all promises hold" : wrong + " answers are not as due");
        if (wrong != 0) {
            System.exit(1);
        }
    }
}
