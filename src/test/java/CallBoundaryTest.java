/** Promises 1 to 28: each sentence that names a boundary case, the last accepted, the first refused, its code. */
public final class CallBoundaryTest {
    private static final int LEAST = Integer.MIN_VALUE;
    private static final int MOST = Integer.MAX_VALUE;
    private static final String GIVEN = "a p; d or p q; n no; f imp no no; c and p q;";

    private static void given(String sentence) {
        Bench.says(sentence);
        Bench.hypotheses(5, GIVEN);
    }

    /** SLOT 1 stays empty, the others are full. */
    private static void full(String sentence) {
        given(sentence);
        Bench.proof(6, 0, "case d b inl q b c inr p c");
        Bench.proof(4, 2, "fst pair a n");
        Bench.proof(2, 3, "fun b p b");
        Bench.does(1, "normal", x -> x.normal(2));
        Bench.proof(4, 2, "fst pair a n");
        Bench.feed("p  no");
        Bench.does(-31, "goal", x -> x.goal(5));
    }

    /** A NORMAL TERM that PROVES no, of so many NODES (odd). */
    private static String chain(int nodes) {
        return Bench.times((nodes - 1) / 2, "app f ") + "n";
    }

    /** One STEP makes it 200 NODES; it PROVES an or, and is an inl then. */
    private static String just200() {
        return "app fun e no inl p pair e e " + chain(99);
    }

    private static String over200() {
        return "app fun e no inl p inl p pair e e " + chain(99);
    }

    /** So many STEPS, all of KIND 7, till it is NORMAL. */
    private static String steps(int many) {
        return Bench.times(many + 1, "abort no ") + "n";
    }

    // ---- SLOTS

    interface SlotCall {
        int on(ProofTrim x, int slot);
    }

    /** SLOTS 0 to 3: -2 by others, an answer by the first, the last one. */
    private static void slots(String what, SlotCall call, int atNought, int atThree) {
        full(what + ", -2: there is none such (SLOT)");
        for (int slot : Bench.NO_SLOTS) {
            Bench.no(-2, what + " of " + slot, x -> call.on(x, slot));
        }
        Bench.does(atNought, what + " of 0", x -> call.on(x, 0));
        Bench.does(atThree, what + " of 3", x -> call.on(x, 3));
    }

    /** As slots(), and -5 by an empty one. */
    private static void fullSlots(String what, SlotCall call, int atNought, int atThree) {
        slots(what, call, atNought, atThree);
        full(what + ", -5: the SLOT is empty");
        Bench.no(-5, what + " of 1", x -> call.on(x, 1));
        Bench.does(2, "drop", x -> x.drop(3));
        Bench.no(-5, what + " of 3", x -> call.on(x, 3));
        Bench.hypotheses(1, "a p;");
        Bench.no(-5, what + " of 0", x -> call.on(x, 0));
        Bench.says(what + ", -5: a new object");
        for (int slot = 0; slot < 4; slot++) {
            int s = slot;
            Bench.no(-5, what + " of " + slot, x -> call.on(x, s));
        }
    }

    private static void allSlots() {
        slots("drop()", (x, s) -> x.drop(s), 6, 2);
        fullSlots("spell()", (x, s) -> x.spell(s, 0, 0), 'c', 'f');
        fullSlots("length()", (x, s) -> x.length(s, 0), 30, 11);
        fullSlots("size()", (x, s) -> x.size(s, 0), 6, 2);
        fullSlots("redexes()", (x, s) -> x.redexes(s, 0), 0, 0);
        fullSlots("step()", (x, s) -> x.step(s), 0, 0);
        fullSlots("normal()", (x, s) -> x.normal(s), 0, 0);
        fullSlots("lines()", (x, s) -> x.lines(s), 10, 7);
        fullSlots("line()", (x, s) -> x.line(s, 0, 0), 0, 0);
        fullSlots("lineByte()", (x, s) -> x.lineByte(s, 0, 0), 'p', 'p');
        slots("equal(), a", (x, s) -> x.equal(s, 0), 1, 0);
        slots("equal(), b", (x, s) -> x.equal(0, s), 1, 0);
        slots("alike(), a", (x, s) -> x.alike(s, 0), 1, 0);
        slots("alike(), b", (x, s) -> x.alike(0, s), 1, 0);
        slots("side()", (x, s) -> x.side(s), -1, -5);
        slots("cut(), a", (x, s) -> x.cut(s, 0, 2, 1), 6, 2);
        slots("cut(), b", (x, s) -> x.cut(2, 1, s, 1), 4, -5);
        slots("cut(), c", (x, s) -> x.cut(3, 0, 2, s), 2, 2);
        full("equal(), alike(), -5: either is empty");
        Bench.no(-5, "equal(1, 0)", x -> x.equal(1, 0));
        Bench.no(-5, "equal(0, 1)", x -> x.equal(0, 1));
        Bench.no(-5, "equal(1, 1)", x -> x.equal(1, 1));
        Bench.no(-5, "alike(1, 0)", x -> x.alike(1, 0));
        Bench.no(-5, "alike(0, 1)", x -> x.alike(0, 1));
        Bench.no(-5, "alike(1, 1)", x -> x.alike(1, 1));
        full("side(), -5: it is empty");
        Bench.no(-5, "side(1)", x -> x.side(1));
    }

    private static void aheadOfNone() {
        full("3.: all these ahead of NONE");
        Bench.no(-2, "hypothesis, k", x -> x.hypothesis(5, 0, MOST));
        Bench.no(-2, "hypothesis, what", x -> x.hypothesis(0, 2, MOST));
        Bench.no(-2, "spell, the SLOT", x -> x.spell(4, 0, MOST));
        Bench.no(-2, "spell, what", x -> x.spell(0, 3, MOST));
        Bench.no(-5, "spell, empty", x -> x.spell(1, 0, MOST));
        Bench.no(-2, "line, the SLOT", x -> x.line(4, 0, 1));
        Bench.no(-5, "line, empty", x -> x.line(1, 0, 1));
        Bench.no(-2, "line, k", x -> x.line(0, 10, 1));
        Bench.no(-2, "lineByte, the SLOT", x -> x.lineByte(4, 0, MOST));
        Bench.no(-5, "lineByte, empty", x -> x.lineByte(1, 0, MOST));
        Bench.no(-2, "lineByte, k", x -> x.lineByte(0, 10, MOST));
        Bench.proof(63, 1, "inl q " + steps(60));
        Bench.proof(64, 2, "inl q " + steps(61));
        Bench.no(-4, "side, too many", x -> x.side(2));
        Bench.no(-5, "side, no or", x -> x.side(3));
    }

    // ---- promises 1, 2

    private static void newObject() {
        Bench.says("promise 1: No HYPOTHESES; THE GOAL is p; empty SLOTS");
        for (int what = 0; what <= 3; what++) {
            int w = what;
            Bench.is(0, "count " + what, x -> x.count(w));
        }
        Bench.no(-2, "hypothesis", x -> x.hypothesis(0, 0, 0));
        Bench.same("THE GOAL", Bench.goalSpelt(), "p");
        for (int slot = 0; slot < 4; slot++) {
            int s = slot;
            Bench.no(-5, "size", x -> x.size(s, 0));
            Bench.does(0, "drop", x -> x.drop(s));
        }
        Bench.no(-2, "trace", x -> x.trace(0));
        Bench.is(0, "fault 0", x -> x.fault(0));
        Bench.is(-1, "fault 1", x -> x.fault(1));
        Bench.faultyProof(3, 0, "a");
        Bench.is(0, "provable", x -> x.provable());
        Bench.no(-5, "bySide", x -> x.bySide(0));
        Bench.is(0, "classical", x -> x.classical());
        Bench.is(0, "against", x -> x.against());
        Bench.no(-2, "cut", x -> x.cut(0, 0, 0, 0));
    }

    private static int blanks(ProofTrim x) {
        return x.feed(0x20202020, 0x20202020, 0x20202020, 0x20202020, 0x20202020);
    }

    private static void feeding() {
        Bench.says("promise 2: Twenty bytes, the highest of each int first");
        Bench.does(20, "feed", x -> x.feed(0x696d7020, 0x6f722070, 0x20712072, 0x20202020, 0x20202020));
        Bench.does(5, "goal", x -> x.goal(20));
        Bench.same("THE GOAL", Bench.goalSpelt(), "imp or p q r");
        Bench.does(20, "feed", x -> x.feed(0x6e6f7420, 0x6e6f7420, 0x6e6f7420, 0x6e6f7420, 0x6e6f7470));
        Bench.does(-31, "goal", x -> x.goal(20));
        Bench.is(16, "the last four bytes are one word", x -> x.fault(1));
        Bench.says("promise 2: bytes of 128 and more are no other bytes");
        Bench.does(20, "feed", x -> x.feed(0x70a0ffff, -1, LEAST, MOST, 0));
        Bench.does(-31, "goal", x -> x.goal(20));
        Bench.is(1, "place", x -> x.fault(1));
        Bench.says("promise 2: come behind those on THE TAPE");
        Bench.does(20, "feed", x -> x.feed(0x696d7020, 0x20202020, 0x20202020, 0x20202020, 0x20202020));
        Bench.does(40, "feed", x -> x.feed(0x20202020, 0x70202020, 0x20202020, 0x20202020, 0x20202020));
        Bench.does(60, "feed", x -> x.feed(0x71202020, 0x20202020, 0x20202020, 0x20202020, 0x20202020));
        Bench.does(3, "goal", x -> x.goal(41));
        Bench.same("THE GOAL", Bench.goalSpelt(), "imp p q");
        Bench.says("promise 2: -4: it would have more than 600");
        Bench.feed("imp p q");
        for (int k = 2; k <= 30; k++) {
            Bench.does(20 * k, "feed " + k, x -> blanks(x));
        }
        Bench.no(-4, "feed 31", x -> x.feed(0x70707070, 0x70707070, 0x70707070, 0x70707070, 0x70707070));
        Bench.is(600, "bytes", x -> x.count(2));
        Bench.does(3, "goal", x -> x.goal(600));
        Bench.same("THE GOAL", Bench.goalSpelt(), "imp p q");
        Bench.does(20, "feed", x -> blanks(x));
    }

    // ---- promises 3 to 6

    interface TextCall {
        int on(ProofTrim x, int n);
    }

    private static void textNumbers(String what, TextCall call, String text, int answer) {
        full(what + ", -3: n is below 0, above what there is (THE TAPE stays)");
        Bench.no(-3, "n 1 of 0", x -> call.on(x, 1));
        Bench.no(-3, "n -1 of 0", x -> call.on(x, -1));
        Bench.feed(text);
        for (int n : new int[] {-1, LEAST, 21, 600, MOST}) {
            Bench.no(-3, "n " + n + " of 20", x -> call.on(x, n));
        }
        Bench.does(answer, "n 20 of 20", x -> call.on(x, 20));
        Bench.is(0, "THE TAPE", x -> x.count(2));
        full(what + ": the first n bytes of THE TAPE (which is empty then)");
        Bench.feed(text + " imp ; q");
        Bench.does(answer, "n " + text.length() + " of 20", x -> call.on(x, text.length()));
        Bench.is(0, "THE TAPE", x -> x.count(2));
        Bench.no(-3, "n 1 of 0", x -> call.on(x, 1));
    }

    private static void texts() {
        textNumbers("promise 3: hypotheses()", (x, n) -> x.hypotheses(n), "h p;", 1);
        textNumbers("promise 4: goal()", (x, n) -> x.goal(n), "not p", 2);
        textNumbers("promise 5: proof()", (x, n) -> x.proof(2, n), "inl p a", 2);
        full("promise 3: SLOTS are empty then; THE GOAL stays");
        Bench.goal(3, "or q w");
        Bench.faultyHypotheses(1, 4, "h p;Z");
        Bench.is(13, "SLOTS, by a FAULT", x -> x.count(1));
        Bench.is(5, "HYPOTHESES, by a FAULT", x -> x.count(0));
        Bench.hypotheses(1, "h p;");
        Bench.is(0, "SLOTS", x -> x.count(1));
        Bench.same("THE GOAL", Bench.goalSpelt(), "or q w");
        full("promise 3: n 0: no HYPOTHESES");
        Bench.feed("h p;");
        Bench.does(0, "hypotheses(0)", x -> x.hypotheses(0));
        Bench.is(0, "THE TAPE", x -> x.count(2));
        Bench.is(0, "SLOTS", x -> x.count(1));
        Bench.no(-2, "hypothesis", x -> x.hypothesis(0, 0, 0));
        full("promise 4: SLOTS, HYPOTHESES stay; how many words it has (not is 1, too)");
        Bench.goal(1, "no");
        Bench.goal(2, "not no");
        Bench.goal(4, "not not not p");
        Bench.is(13, "SLOTS", x -> x.count(1));
        Bench.is(5, "HYPOTHESES", x -> x.count(0));
        Bench.says("promise 4: n 0 is a FAULT");
        Bench.feed("q");
        Bench.does(-31, "goal(0)", x -> x.goal(0));
        Bench.is(0, "place", x -> x.fault(1));
        Bench.is(0, "THE TAPE", x -> x.count(2));
        Bench.same("THE GOAL", Bench.goalSpelt(), "p");
    }

    private static void proofs() {
        full("promise 5: the TEXT of a SLOT (in place of what it had)");
        Bench.proof(1, 0, "a");
        Bench.term(0, "a");
        Bench.proof(2, 3, "inl q n");
        Bench.term(3, "inl q n");
        Bench.term(2, "fst pair a n");
        Bench.is(13, "SLOTS", x -> x.count(1));
        full("promise 5: n 0 is a FAULT, the SLOT keeps what it had");
        Bench.feed("a");
        Bench.does(-31, "proof(2, 0)", x -> x.proof(2, 0));
        Bench.is(0, "place", x -> x.fault(1));
        Bench.is(0, "THE TAPE", x -> x.count(2));
        Bench.term(2, "fst pair a n");
        full("promise 5: -2 ahead of -3 and of a FAULT");
        Bench.no(-2, "proof(4, -1)", x -> x.proof(4, -1));
        Bench.no(-2, "proof(-1, 1)", x -> x.proof(-1, 1));
        Bench.no(-2, "proof(4, 0)", x -> x.proof(4, 0));
        Bench.feed("abcde");
        for (int slot : Bench.NO_SLOTS) {
            Bench.no(-2, "proof(" + slot + ", 5)", x -> x.proof(slot, 5));
            Bench.no(-2, "proof(" + slot + ", 21)", x -> x.proof(slot, 21));
        }
        Bench.does(-31, "proof(0, 5)", x -> x.proof(0, 5));
        for (int slot = 0; slot < 4; slot++) {
            full("promise 5: SLOT " + slot);
            Bench.proof(3, slot, "pair n n");
            Bench.term(slot, "pair n n");
        }
    }

    private static void fault(int kind, int place) {
        Bench.is(kind, "FAULT", x -> x.fault(0));
        Bench.is(place, "its place", x -> x.fault(1));
    }

    private static void faults() {
        Bench.says("promise 6: NONE for others, and for place ahead of any");
        fault(0, -1);
        for (int what : new int[] {-1, 2, LEAST, MOST}) {
            Bench.is(-1, "fault " + what, x -> x.fault(what));
        }
        Bench.does(-31, "goal(0)", x -> x.goal(0));
        for (int what : new int[] {-1, 2, LEAST, MOST}) {
            Bench.is(-1, "fault " + what, x -> x.fault(what));
        }
        Bench.says("promise 6: that emptied THE TAPE (be it of no byte)");
        Bench.does(-31, "goal(0)", x -> x.goal(0));
        fault(1, 0);
        Bench.does(0, "hypotheses(0)", x -> x.hypotheses(0));
        fault(0, -1);
        Bench.does(-31, "proof(0, 0)", x -> x.proof(0, 0));
        fault(1, 0);
        Bench.says("promise 6: calls that leave THE TAPE do not count");
        Bench.feed("imp p");
        Bench.does(-31, "goal(5)", x -> x.goal(5));
        fault(1, 5);
        Bench.no(-3, "goal(-1)", x -> x.goal(-1));
        Bench.no(-3, "hypotheses(1)", x -> x.hypotheses(1));
        Bench.no(-3, "proof(0, 1)", x -> x.proof(0, 1));
        Bench.no(-2, "proof(4, 0)", x -> x.proof(4, 0));
        Bench.feed("p");
        Bench.does(0, "drop(0)", x -> x.drop(0));
        fault(1, 5);
        Bench.says("promise 6: the latest");
        Bench.feed("a p;b q;b r;");
        Bench.does(-32, "hypotheses(12)", x -> x.hypotheses(12));
        fault(2, 8);
        Bench.feed("z");
        Bench.does(-33, "proof(0, 1)", x -> x.proof(0, 1));
        fault(3, 0);
        Bench.goal(1, "q");
        fault(0, -1);
    }

    // ---- promises 7, 8

    private static void dropping() {
        full("promise 7: how many NODES it had (0: it was)");
        Bench.does(0, "drop(1)", x -> x.drop(1));
        Bench.does(6, "drop(0)", x -> x.drop(0));
        Bench.does(0, "drop(0)", x -> x.drop(0));
        Bench.does(4, "drop(2)", x -> x.drop(2));
        Bench.is(8, "SLOTS", x -> x.count(1));
        Bench.term(3, "fun xa p xa");
        Bench.proof(1, 0, "n");
        Bench.does(1, "drop(0)", x -> x.drop(0));
    }

    private static void counting() {
        full("promise 8: NONE for others");
        for (int what : new int[] {-1, 4, LEAST, MOST}) {
            Bench.is(-1, "count " + what, x -> x.count(what));
        }
        given("promise 8: 1 SLOTS that are not empty (bits)");
        for (int slot = 0; slot < 4; slot++) {
            int s = slot;
            Bench.proof(1, slot, "a");
            Bench.is(1 << slot, "SLOTS", x -> x.count(1));
            Bench.does(1, "drop", x -> x.drop(s));
        }
        Bench.says("promise 8: 0 HYPOTHESES");
        for (int many = 0; many <= 6; many++) {
            Bench.hypotheses(many, "a p;b p;c p;d p;e p;f p;".substring(0, 4 * many));
            int want = many;
            Bench.is(want, "HYPOTHESES", x -> x.count(0));
        }
        given("promise 8: 3 STEPS of the latest normal() that was not refused (0 ahead of any)");
        Bench.is(0, "STEPS", x -> x.count(3));
        Bench.proof(62, 0, steps(60));
        Bench.does(7, "step", x -> x.step(0));
        Bench.is(1, "alike", x -> x.alike(0, 0));
        Bench.is(0, "STEPS", x -> x.count(3));
        Bench.does(59, "normal", x -> x.normal(0));
        Bench.is(59, "STEPS", x -> x.count(3));
        Bench.proof(63, 1, steps(61));
        Bench.no(-4, "normal", x -> x.normal(1));
        Bench.no(-5, "normal", x -> x.normal(2));
        Bench.no(-2, "normal", x -> x.normal(4));
        Bench.is(59, "STEPS", x -> x.count(3));
        Bench.does(2, "drop", x -> x.drop(0));
        Bench.hypotheses(1, "a p;");
        Bench.is(59, "STEPS, whatever came since", x -> x.count(3));
        Bench.proof(1, 2, "a");
        Bench.does(0, "normal", x -> x.normal(2));
        Bench.is(0, "STEPS", x -> x.count(3));
    }

    // ---- promises 9 to 14

    private static void showing() {
        Bench.says("promise 9: NONE: not so many; -2: k, what; -3: i is below 0");
        Bench.no(-2, "k 0 of none", x -> x.hypothesis(0, 0, 0));
        Bench.hypotheses(2, "a q; name not or p w;");
        Bench.same("NAME", Bench.hypothesisSpelt(0, 0), "a");
        Bench.same("FORMULA", Bench.hypothesisSpelt(0, 1), "q");
        Bench.same("NAME", Bench.hypothesisSpelt(1, 0), "name");
        Bench.same("FORMULA", Bench.hypothesisSpelt(1, 1), "imp or p w no");
        Bench.is('o', "the last byte", x -> x.hypothesis(1, 1, 12));
        for (int i : new int[] {13, 14, MOST}) {
            Bench.is(-1, "behind the last byte", x -> x.hypothesis(1, 1, i));
        }
        Bench.is('e', "the last letter", x -> x.hypothesis(1, 0, 3));
        Bench.is(-1, "behind the last letter", x -> x.hypothesis(1, 0, 4));
        Bench.is(-1, "behind the only letter", x -> x.hypothesis(0, 0, 1));
        for (int bad : new int[] {-1, 2, LEAST, MOST}) {
            Bench.no(-2, "k " + bad, x -> x.hypothesis(bad, 0, 0));
            Bench.no(-2, "k " + bad + " ahead of i", x -> x.hypothesis(bad, 0, -1));
            Bench.no(-2, "what " + bad, x -> x.hypothesis(0, bad, 0));
            Bench.no(-2, "what " + bad + " ahead of i", x -> x.hypothesis(1, bad, -1));
        }
        Bench.no(-3, "i -1", x -> x.hypothesis(1, 0, -1));
        Bench.no(-3, "i -1", x -> x.hypothesis(1, 1, -1));
        Bench.no(-3, "i the least", x -> x.hypothesis(0, 1, LEAST));
        Bench.hypotheses(6, "a p;b p;c p;d p;e p;f w;");
        Bench.is('w', "k 5", x -> x.hypothesis(5, 1, 0));
        Bench.no(-2, "k 6", x -> x.hypothesis(6, 1, 0));
        Bench.says("promise 10: NONE; -3 likewise");
        Bench.is('p', "byte 0", x -> x.goalByte(0));
        Bench.is(-1, "byte 1", x -> x.goalByte(1));
        Bench.goal(30, Bench.times(29, "not ") + "w");
        Bench.same("THE GOAL", Bench.goalSpelt(), Bench.times(29, "imp ") + "w" + Bench.times(29, " no"));
        Bench.is('o', "byte 203", x -> x.goalByte(203));
        for (int i : new int[] {204, 205, MOST}) {
            Bench.is(-1, "byte " + i, x -> x.goalByte(i));
        }
        Bench.no(-3, "byte -1", x -> x.goalByte(-1));
        Bench.no(-3, "the least byte", x -> x.goalByte(LEAST));
    }

    private static void spelling() {
        full("promise 11: NONE: not so many");
        String[] due = {"case d xa inl q xa xa inr p xa", "case d xa inl xa xa inr xa", "or p q"};
        for (int what = 0; what <= 2; what++) {
            int w = what;
            int bytes = due[what].length();
            Bench.same("what " + what, Bench.spelt(0, what), due[what]);
            Bench.is(due[what].charAt(bytes - 1), "the last byte", x -> x.spell(0, w, bytes - 1));
            for (int i : new int[] {bytes, bytes + 1, MOST}) {
                Bench.is(-1, "behind the last byte", x -> x.spell(0, w, i));
            }
            Bench.is(bytes, "promise 12: length", x -> x.length(0, w));
        }
        full("promise 11: -2, then -3: i is below 0, then -5: the SLOT is empty");
        for (int what : new int[] {-1, 3, LEAST, MOST}) {
            Bench.no(-2, "what " + what, x -> x.spell(0, what, 0));
            Bench.no(-2, "what " + what + " ahead of i", x -> x.spell(0, what, -1));
            Bench.no(-2, "what " + what + " ahead of the empty SLOT", x -> x.spell(1, what, 0));
            Bench.no(-2, "promise 12: what " + what, x -> x.length(0, what));
            Bench.no(-2, "promise 12: what " + what + " ahead of the empty SLOT", x -> x.length(1, what));
        }
        for (int i : new int[] {-1, LEAST}) {
            Bench.no(-3, "i " + i, x -> x.spell(0, 2, i));
            Bench.no(-3, "i " + i + " ahead of the empty SLOT", x -> x.spell(1, 0, i));
            Bench.no(-2, "the SLOT ahead of i " + i, x -> x.spell(4, 0, i));
        }
        for (int what = 0; what <= 2; what++) {
            int w = what;
            Bench.no(-5, "empty", x -> x.spell(1, w, MOST));
            Bench.no(-5, "promise 12: empty", x -> x.length(1, w));
        }
    }

    private static void sizes(int slot, int... due) {
        for (int what = 0; what < due.length; what++) {
            int w = what;
            Bench.is(due[what], "size " + what, x -> x.size(slot, w));
        }
    }

    private static void measuring() {
        full("promise 13: of the smallest TERM");
        Bench.proof(1, 0, "a");
        sizes(0, 1, 1, 1, 1, 0, 1, 1);
        Bench.proof(1, 0, "c");
        sizes(0, 1, 1, 16, 1, 0, 0, 1);
        full("promise 13: 2 HYPOTHESES that it has as NAMES (bits)");
        Bench.hypotheses(6, "a p;b p;c p;d p;e p;f p;");
        Bench.proof(11, 0, "pair a pair b pair c pair d pair e f");
        sizes(0, 11, 6, 63, 6, 0, 0, 1);
        Bench.proof(2, 0, "fun a p a");
        sizes(0, 2, 2, 0, 2, 0, 0, 1);
        Bench.proof(6, 0, "pair fun f q a pair f f");
        Bench.is(33, "HYPOTHESES", x -> x.size(0, 2));
        Bench.proof(4, 0, "pair fun f q f a");
        Bench.is(1, "HYPOTHESES, the last one hidden", x -> x.size(0, 2));
        full("promise 13: 5 1 if it PROVES THE GOAL, as it is now; 6 1 if it is NORMAL, as it is now");
        sizes(2, 4, 3, 5, 3, 1, 1, 0);
        Bench.goal(1, "q");
        Bench.is(0, "PROVES THE GOAL", x -> x.size(2, 5));
        Bench.does(2, "step", x -> x.step(2));
        sizes(2, 1, 1, 1, 1, 0, 0, 1);
        Bench.goal(3, "imp p p");
        Bench.is(1, "PROVES THE GOAL", x -> x.size(3, 5));
        full("promise 13, 14: -2 ahead of -5: what, KIND");
        for (int what : new int[] {-1, 7, LEAST, MOST}) {
            Bench.no(-2, "what " + what, x -> x.size(0, what));
            Bench.no(-2, "what " + what + " of an empty SLOT", x -> x.size(1, what));
        }
        for (int kind : new int[] {-1, 8, LEAST, MOST}) {
            Bench.no(-2, "KIND " + kind, x -> x.redexes(0, kind));
            Bench.no(-2, "KIND " + kind + " of an empty SLOT", x -> x.redexes(1, kind));
        }
        for (int what = 0; what <= 6; what++) {
            int w = what;
            Bench.no(-5, "size of an empty SLOT", x -> x.size(1, w));
            Bench.no(-5, "redexes of an empty SLOT", x -> x.redexes(1, w + 1));
        }
        Bench.is(1, "KIND 0: of all", x -> x.redexes(2, 0));
        Bench.is(1, "KIND 2", x -> x.redexes(2, 2));
        Bench.is(0, "KIND 7", x -> x.redexes(2, 7));
    }

    // ---- promises 15 to 17

    private static void stepping() {
        full("promise 15: 0: it is NORMAL");
        Bench.does(0, "step", x -> x.step(0));
        Bench.term(0, "case d xa inl q xa xa inr p xa");
        Bench.does(2, "step", x -> x.step(2));
        Bench.does(0, "step", x -> x.step(2));
        Bench.is(1, "count 3 is of normal(), not of step()", x -> x.count(3));
        given("promise 15: -4: there would be more than 200 NODES");
        Bench.proof(105, 0, just200());
        Bench.does(1, "step to 200", x -> x.step(0));
        Bench.is(200, "NODES", x -> x.size(0, 0));
        Bench.proof(106, 1, over200());
        Bench.no(-4, "step to 201", x -> x.step(1));
        Bench.is(106, "NODES", x -> x.size(1, 0));
        given("promise 15: -4: by a case that is moved outwards");
        Bench.proof(102, 0, "case case d b d c d b " + chain(95) + " c abort no n");
        Bench.proof(103, 1, "case case d b d c inl q a b " + chain(95) + " c abort no n");
        Bench.no(-4, "step to 201", x -> x.step(1));
        Bench.does(6, "step to 200", x -> x.step(0));
        Bench.is(200, "NODES", x -> x.size(0, 0));
    }

    private static void normalising() {
        given("promise 16: STEPS till it is NORMAL: 60 at most");
        Bench.proof(62, 0, steps(60));
        Bench.proof(63, 1, steps(61));
        Bench.proof(63, 2, steps(61));
        Bench.no(-4, "normal, 61 STEPS", x -> x.normal(1));
        Bench.is(63, "the SLOT stays", x -> x.size(1, 0));
        Bench.does(60, "normal, 60 STEPS", x -> x.normal(0));
        Bench.term(0, "abort no n");
        Bench.no(-4, "normal, 61 STEPS", x -> x.normal(1));
        Bench.does(7, "step", x -> x.step(1));
        Bench.does(60, "normal, one STEP less", x -> x.normal(1));
        Bench.does(0, "normal, NORMAL already", x -> x.normal(1));
        given("promise 16: -4: there would be more than 200 NODES behind one (the SLOT stays)");
        Bench.proof(105, 0, just200());
        Bench.proof(106, 1, over200());
        Bench.no(-4, "normal, 201", x -> x.normal(1));
        Bench.does(1, "normal, 200", x -> x.normal(0));
        Bench.is(200, "NODES", x -> x.size(0, 0));
        Bench.does(0, "normal, NORMAL already", x -> x.normal(0));
        given("promise 16: behind one, though there would be fewer behind the next");
        Bench.proof(73, 0, "app fun e no pair e snd pair e e " + chain(65));
        Bench.proof(74, 1, "app fun e no pair e snd pair e e abort no " + chain(65));
        Bench.no(-4, "normal, 201", x -> x.normal(1));
        Bench.no(-4, "step, 201", x -> x.step(1));
        Bench.does(2, "normal, 198, 131", x -> x.normal(0));
        Bench.is(131, "NODES", x -> x.size(0, 0));
        given("promise 16: behind one, though there were fewer ahead of it");
        Bench.proof(109, 1, "snd pair n " + over200());
        Bench.no(-4, "normal, 106, 201", x -> x.normal(1));
        Bench.is(109, "the SLOT stays", x -> x.size(1, 0));
    }

    private static void tracing() {
        given("promise 17: KIND of the k-th STEP (from 0) of the latest normal()");
        Bench.no(-2, "trace 0 ahead of any", x -> x.trace(0));
        Bench.proof(62, 0, steps(60));
        Bench.does(60, "normal", x -> x.normal(0));
        for (int k = 0; k < 60; k++) {
            int step = k;
            Bench.is(7, "trace " + k, x -> x.trace(step));
        }
        for (int k : new int[] {-1, 60, 61, LEAST, MOST}) {
            Bench.no(-2, "trace " + k, x -> x.trace(k));
        }
        Bench.proof(11, 1, "pair app fun b p b a pair fst pair a n n");
        Bench.does(2, "normal", x -> x.normal(1));
        Bench.is(1, "trace 0", x -> x.trace(0));
        Bench.is(2, "trace 1", x -> x.trace(1));
        Bench.no(-2, "trace 2", x -> x.trace(2));
        given("promise 17: that was not refused");
        Bench.proof(4, 0, "snd pair a n");
        Bench.does(1, "normal", x -> x.normal(0));
        Bench.proof(63, 1, steps(61));
        Bench.no(-4, "normal", x -> x.normal(1));
        Bench.no(-5, "normal", x -> x.normal(2));
        Bench.no(-2, "normal", x -> x.normal(4));
        Bench.no(-4, "alike", x -> x.alike(1, 1));
        Bench.is(3, "trace 0", x -> x.trace(0));
        Bench.no(-2, "trace 1", x -> x.trace(1));
        Bench.does(0, "normal", x -> x.normal(0));
        Bench.no(-2, "trace 0 of no STEPS", x -> x.trace(0));
    }

    // ---- promise 18

    private static void cutting() {
        full("promise 18: -2: a SLOT, k");
        for (int k : new int[] {-1, 5, 6, LEAST, MOST}) {
            Bench.no(-2, "k " + k, x -> x.cut(0, k, 2, 1));
            Bench.no(-2, "k " + k + " ahead of empty SLOTS", x -> x.cut(1, k, 1, 1));
        }
        for (int slot : Bench.NO_SLOTS) {
            Bench.no(-2, "c " + slot + " ahead of empty SLOTS", x -> x.cut(1, 0, 1, slot));
            Bench.no(-2, "a " + slot + " ahead of an empty SLOT", x -> x.cut(slot, 0, 1, 1));
            Bench.no(-2, "b " + slot + " ahead of an empty SLOT", x -> x.cut(1, 0, slot, 1));
        }
        full("promise 18: -5: a, b are empty, b does not PROVE that HYPOTHESIS's FORMULA");
        Bench.no(-5, "a is empty", x -> x.cut(1, 0, 2, 1));
        Bench.no(-5, "b is empty", x -> x.cut(2, 0, 1, 1));
        Bench.no(-5, "both are", x -> x.cut(1, 0, 1, 1));
        Bench.no(-5, "b PROVES an or", x -> x.cut(2, 0, 0, 1));
        Bench.no(-5, "that HYPOTHESIS is not in it", x -> x.cut(3, 0, 0, 1));
        Bench.no(-5, "b PROVES p, it is an or", x -> x.cut(0, 1, 2, 1));
        Bench.does(11, "b PROVES an or, it is one", x -> x.cut(0, 1, 0, 1));
        full("promise 18: the first HYPOTHESIS, the last one");
        Bench.does(7, "cut", x -> x.cut(2, 0, 2, 1));
        Bench.term(1, "fst pair fst pair a n n");
        Bench.proof(2, 0, "fst c");
        Bench.proof(4, 1, "pair a snd c");
        Bench.does(5, "cut", x -> x.cut(0, 4, 1, 3));
        Bench.term(3, "fst pair a snd c");
        full("promise 18: SLOT c may be SLOT a, SLOT b, a full one");
        Bench.does(7, "cut into a", x -> x.cut(2, 0, 2, 2));
        Bench.term(2, "fst pair fst pair a n n");
        Bench.does(2, "cut into b, that HYPOTHESIS is not in it", x -> x.cut(3, 0, 2, 2));
        Bench.term(2, "fun xa p xa");
        Bench.says("promise 18: no HYPOTHESES, no k");
        Bench.proof(2, 0, "fun a p a");
        Bench.no(-2, "k 0", x -> x.cut(0, 0, 0, 0));
        cuttingLarge();
    }

    private static void cuttingLarge() {
        given("promise 18: -4: there would be more than 200 NODES");
        Bench.proof(119, 0, Bench.times(59, "pair n ") + "a");
        Bench.proof(120, 1, "fun z p " + Bench.times(59, "pair n ") + "a");
        Bench.proof(82, 2, Bench.times(27, "fst pair ") + "a" + Bench.times(27, " n"));
        Bench.proof(1, 3, "a");
        Bench.no(-4, "201", x -> x.cut(1, 0, 2, 3));
        Bench.term(3, "a");
        Bench.does(200, "200", x -> x.cut(0, 0, 2, 3));
        Bench.is(200, "NODES", x -> x.size(3, 0));
        Bench.proof(1, 2, "c");
        Bench.does(200, "200, that HYPOTHESIS is not in it", x -> x.cut(3, 4, 2, 1));
        given("promise 18: -5 ahead of -4");
        Bench.proof(119, 0, Bench.times(59, "pair n ") + "n");
        Bench.no(-5, "large, and not what it must PROVE", x -> x.cut(0, 2, 0, 1));
        Bench.proof(67, 1, Bench.times(66, "abort no ") + "n");
        Bench.no(-4, "large", x -> x.cut(0, 2, 1, 2));
        Bench.no(-5, "an empty one", x -> x.cut(0, 2, 2, 2));
    }

    // ---- promises 19 to 21

    private static void numberingLines() {
        full("promise 19: LINES of the smallest TERM, of a NAME");
        Bench.proof(1, 0, "c");
        Bench.is(5, "lines", x -> x.lines(0));
        Bench.says("promise 19: without HYPOTHESES");
        Bench.proof(2, 0, "fun a p a");
        Bench.is(2, "lines", x -> x.lines(0));
        given("promise 19: of 200 NODES");
        Bench.proof(67, 0, Bench.times(66, "abort no ") + "n");
        Bench.does(133, "cut", x -> x.cut(0, 2, 0, 1));
        Bench.proof(2, 2, "abort no n");
        Bench.does(134, "cut", x -> x.cut(1, 2, 2, 1));
        Bench.does(200, "cut", x -> x.cut(1, 2, 0, 1));
        Bench.is(204, "lines", x -> x.lines(1));
        Bench.is(10, "RULE of the last LINE", x -> x.line(1, 203, 0));
        Bench.is(202, "FROM", x -> x.line(1, 203, 1));
        Bench.no(-2, "line 204", x -> x.line(1, 204, 0));
        Bench.is(200, "within one another", x -> x.size(1, 1));
    }

    private static void showingLines() {
        full("promise 20: -2: the SLOT; -5; -2: k, what");
        int[] last = {9, 1, 6, 8, 0};
        for (int what = 0; what <= 4; what++) {
            int w = what;
            Bench.is(last[what], "line 9, " + what, x -> x.line(0, 9, w));
        }
        for (int k : new int[] {-1, 10, LEAST, MOST}) {
            Bench.no(-2, "k " + k, x -> x.line(0, k, 0));
            Bench.no(-5, "an empty SLOT ahead of k " + k, x -> x.line(1, k, 0));
            Bench.no(-2, "no SLOT ahead of k " + k, x -> x.line(4, k, 0));
            Bench.no(-2, "promise 21: k " + k, x -> x.lineByte(0, k, 0));
            Bench.no(-2, "promise 21: k " + k + " ahead of i", x -> x.lineByte(0, k, -1));
            Bench.no(-5, "promise 21: an empty SLOT ahead of k " + k, x -> x.lineByte(1, k, 0));
        }
        for (int what : new int[] {-1, 5, LEAST, MOST}) {
            Bench.no(-2, "what " + what, x -> x.line(0, 9, what));
            Bench.no(-5, "an empty SLOT ahead of what " + what, x -> x.line(1, 0, what));
        }
        full("promise 20: 1, 2, 3 the first, second, third one of FROM (NONE: not so many)");
        Bench.proof(8, 0, "fun b q pair a abort r snd pair b n");
        int[][] froms = {{0, -1, -1, -1}, {1, -1, -1, -1}, {4, 5, 2, -1}, {6, 6, -1, -1}, {10, 7, -1, -1}, {4, 0, 8, -1}, {2, 5, 9, -1}};
        for (int k = 4; k <= 10; k++) {
            int line = k;
            for (int what = 0; what <= 3; what++) {
                int w = what;
                Bench.is(froms[k - 4][what], "line " + k + ", " + what, x -> x.line(0, line, w));
            }
        }
        full("promise 21: NONE: not so many; -3: i is below 0");
        Bench.is('q', "the last byte", x -> x.lineByte(0, 9, 5));
        for (int i : new int[] {6, 7, MOST}) {
            Bench.is(-1, "behind the last byte", x -> x.lineByte(0, 9, i));
        }
        for (int i : new int[] {-1, LEAST}) {
            Bench.no(-3, "i " + i, x -> x.lineByte(0, 9, i));
            Bench.no(-5, "an empty SLOT ahead of i " + i, x -> x.lineByte(1, 0, i));
            Bench.no(-2, "no SLOT ahead of i " + i, x -> x.lineByte(-1, 0, i));
        }
    }

    // ---- promises 22 to 24

    private static void pair(int equal, int alike, String one, String other) {
        Bench.feed(one);
        Bench.does(1, one + " is read", x -> x.proof(0, one.length()) > 0 ? 1 : 0);
        Bench.feed(other);
        Bench.does(1, other + " is read", x -> x.proof(3, other.length()) > 0 ? 1 : 0);
        Bench.is(equal, "equal: " + one + " and " + other, x -> x.equal(0, 3));
        Bench.is(equal, "equal: " + other + " and " + one, x -> x.equal(3, 0));
        Bench.is(alike, "alike: " + one + " and " + other, x -> x.alike(0, 3));
        Bench.is(alike, "alike: " + other + " and " + one, x -> x.alike(3, 0));
    }

    private static void comparing() {
        given("promise 22: Whether TERMS of two SLOTS are, SPELT, the same");
        Bench.hypotheses(3, "a p; b p; n no;");
        pair(1, 1, "a", "a");
        pair(0, 0, "a", "b");
        pair(1, 1, "fun c p c", "fun zz p zz");
        pair(0, 0, "fun c p c", "fun c q c");
        pair(1, 1, "inl not q a", "inl imp q no a");
        pair(0, 0, "inl q a", "inl r a");
        pair(0, 0, "inl p a", "inr p a");
        pair(0, 0, "abort p n", "abort q n");
        pair(0, 0, "pair a b", "pair b a");
        pair(0, 0, "fun c p fun e p c", "fun c p fun e p e");
        pair(0, 0, "fun a p b", "fun b p b");
        pair(1, 1, "fun a p b", "fun c p b");
        given("promise 23: Whether they are, made NORMAL (SLOTS stay as they are)");
        pair(0, 1, "fst pair a n", "a");
        pair(0, 1, "fst pair a n", "fst pair a a");
        pair(0, 1, "app fun c p pair c c a", "pair snd pair n a fst pair a n");
        pair(0, 0, "fst pair a n", "n");
        pair(0, 1, "abort r abort no n", "abort r n");
        pair(0, 0, "abort no n", "n");
        Bench.term(0, "abort no n");
        pair(0, 0, "fun b p fst pair b b", "fun b q snd pair b b");
        Bench.term(0, "fun xa p fst pair xa xa");
        Bench.is(0, "STEPS of normal()", x -> x.count(3));
        given("promise 23: -4: as normal(), by a or b: 61 STEPS");
        Bench.proof(62, 0, steps(60));
        Bench.proof(63, 1, steps(61));
        Bench.proof(1, 2, "a");
        Bench.is(1, "60 STEPS each", x -> x.alike(0, 0));
        Bench.is(0, "60 STEPS and none", x -> x.alike(0, 2));
        Bench.no(-4, "b needs 61", x -> x.alike(0, 1));
        Bench.no(-4, "a needs 61", x -> x.alike(1, 0));
        Bench.no(-4, "a needs 61, b none", x -> x.alike(1, 2));
        Bench.no(-4, "both do, though they are equal", x -> x.alike(1, 1));
        Bench.no(-5, "a needs 61, b is empty", x -> x.alike(1, 3));
        Bench.no(-5, "b needs 61, a is empty", x -> x.alike(3, 1));
        Bench.no(-2, "a needs 61, no SLOT b", x -> x.alike(1, 4));
        Bench.is(1, "equal()", x -> x.equal(1, 1));
        given("promise 23: -4: as normal(), by a or b: 201 NODES");
        Bench.proof(105, 0, just200());
        Bench.proof(106, 1, over200());
        Bench.is(1, "200 each", x -> x.alike(0, 0));
        Bench.no(-4, "b needs 201", x -> x.alike(0, 1));
        Bench.no(-4, "a needs 201", x -> x.alike(1, 0));
        Bench.no(-4, "both do", x -> x.alike(1, 1));
    }

    private static void siding() {
        given("promise 24: -4: as normal()");
        Bench.proof(63, 0, "inl q " + steps(60));
        Bench.is(0, "60 STEPS", x -> x.side(0));
        Bench.proof(64, 1, "inr q " + steps(61));
        Bench.no(-4, "61 STEPS", x -> x.side(1));
        Bench.does(7, "step", x -> x.step(1));
        Bench.is(1, "one STEP less", x -> x.side(1));
        Bench.proof(105, 0, just200());
        Bench.is(0, "200 NODES", x -> x.side(0));
        Bench.proof(106, 1, over200());
        Bench.no(-4, "201 NODES", x -> x.side(1));
        Bench.is(106, "the SLOT stays", x -> x.size(1, 0));
        given("promise 24: -5: it does not PROVE an or: ahead of -4");
        Bench.proof(63, 0, steps(61));
        Bench.no(-5, "no", x -> x.side(0));
        for (String text : new String[] {"a", "n", "f", "c", "fst c", "fun b p d"}) {
            Bench.feed(text);
            Bench.does(1, text, x -> x.proof(1, text.length()) > 0 ? 1 : 0);
            Bench.no(-5, text, x -> x.side(1));
        }
        given("promise 24: NONE: neither");
        for (String text : new String[] {"d", "case d b inl q b c inr p c", "case d b inl q b c inl q a", "abort or p q n"}) {
            Bench.feed(text);
            Bench.does(1, text, x -> x.proof(1, text.length()) > 0 ? 1 : 0);
            Bench.is(-1, text, x -> x.side(1));
        }
    }

    // ---- promises 25 to 28

    private static String nots(int words) {
        return Bench.times((words - 1) / 2, "not ") + "p";
    }

    private static void searching() {
        Bench.says("promise 25: more than 40 words together (SPELT): of THE GOAL");
        Bench.goal(20, nots(39));
        Bench.is(0, "39 words", x -> x.provable());
        Bench.goal(21, nots(41));
        Bench.no(-4, "41 words", x -> x.provable());
        Bench.says("promise 25: more than 40 words together: HYPOTHESES and THE GOAL");
        Bench.goal(20, nots(39));
        Bench.hypotheses(1, "a no;");
        Bench.is(1, "40 words", x -> x.provable());
        Bench.hypotheses(2, "a no;b p;");
        Bench.no(-4, "41 words", x -> x.provable());
        Bench.says("promise 25: more than 40 words together: each HYPOTHESIS, NAMES aside");
        Bench.hypotheses(6, "aaaa p;b " + nots(35) + ";cccc p;d p;e p;ffff p;");
        Bench.no(-4, "41 words", x -> x.provable());
        Bench.hypotheses(5, "aaaa p;b " + nots(35) + ";cccc p;d p;e p;");
        Bench.is(1, "40 words", x -> x.provable());
        Bench.hypotheses(1, "aaaa " + nots(41) + ";");
        Bench.no(-4, "42 words", x -> x.provable());
        Bench.hypotheses(1, "aaaa " + nots(39) + ";");
        Bench.is(0, "40 words", x -> x.provable());
        Bench.hypotheses(0, "");
        Bench.is(0, "1 word", x -> x.provable());
        Bench.says("promise 25: the same words twice are told twice");
        Bench.hypotheses(2, "a " + nots(19) + ";b " + nots(19) + ";");
        Bench.is(0, "39 words", x -> x.provable());
        Bench.goal(3, "or p p");
        Bench.no(-4, "41 words", x -> x.provable());
    }

    private static void searchingSides() {
        Bench.says("promise 26: -2: side");
        Bench.goal(4, "or not p p");
        for (int side : new int[] {-1, 2, LEAST, MOST}) {
            Bench.no(-2, "side " + side, x -> x.bySide(side));
        }
        Bench.is(0, "side 0", x -> x.bySide(0));
        Bench.is(0, "side 1", x -> x.bySide(1));
        Bench.hypotheses(1, "a p;");
        Bench.is(0, "side 0", x -> x.bySide(0));
        Bench.is(1, "side 1", x -> x.bySide(1));
        Bench.says("promise 26: -5: it is none");
        for (String text : new String[] {"p", "no", "imp p or p q", "and or p q or p q", "not or p q"}) {
            Bench.feed(text);
            Bench.does(1, text, x -> x.goal(text.length()) > 0 ? 1 : 0);
            Bench.no(-5, text, x -> x.bySide(0));
            Bench.no(-5, text, x -> x.bySide(1));
            Bench.no(-2, text, x -> x.bySide(2));
        }
        Bench.says("promise 26: -4 likewise (by THE GOAL as it is)");
        Bench.hypotheses(1, "a " + nots(37) + ";");
        Bench.goal(3, "or q p");
        Bench.is(0, "40 words", x -> x.bySide(0));
        Bench.is(0, "40 words", x -> x.bySide(1));
        Bench.hypotheses(2, "a " + nots(37) + ";b p;");
        Bench.no(-4, "41 words", x -> x.bySide(0));
        Bench.no(-4, "41 words", x -> x.bySide(1));
        Bench.no(-2, "-2 ahead of -4", x -> x.bySide(2));
        Bench.goal(3, "and q p");
        Bench.no(-5, "-5 ahead of -4", x -> x.bySide(0));
        Bench.goal(22, "or p " + nots(39));
        Bench.hypotheses(0, "");
        Bench.no(-4, "41 words by THE GOAL alone", x -> x.bySide(0));
    }

    private static void truth() {
        Bench.says("promise 27: however many words");
        Bench.goal(30, Bench.times(29, "not ") + "w");
        Bench.hypotheses(2, "a " + Bench.times(29, "not ") + "w;b " + Bench.times(28, "not ") + "v;");
        Bench.no(-4, "provable", x -> x.provable());
        Bench.is(1, "classical", x -> x.classical());
        Bench.is(-1, "against", x -> x.against());
        Bench.goal(29, Bench.times(28, "not ") + "w");
        Bench.is(0, "classical", x -> x.classical());
        Bench.is(64, "against", x -> x.against());
        Bench.says("promise 27: as many PARTS as a text can tell");
        StringBuilder b = new StringBuilder();
        for (int k = 0; k < 5; k++) {
            b.append((char) ('a' + k)).append(' ').append(Bench.times(29, "not ")).append((char) ('q' + k)).append(';');
        }
        Bench.hypotheses(5, b.toString());
        Bench.goal(30, Bench.times(29, "not ") + "w");
        Bench.is(0, "classical", x -> x.classical());
        Bench.is(128, "against", x -> x.against());
        Bench.goal(30, Bench.times(29, "not ") + "q");
        Bench.is(1, "classical", x -> x.classical());
        Bench.says("promise 27: by no set are all HYPOTHESES TRUE");
        Bench.hypotheses(1, "a no;");
        Bench.is(1, "classical", x -> x.classical());
        Bench.is(-1, "against", x -> x.against());
        Bench.hypotheses(2, "a s;b not s;");
        Bench.is(1, "classical", x -> x.classical());
        Bench.is(-1, "against", x -> x.against());
        Bench.says("promise 27: CLASSICAL, though not PROVABLE");
        Bench.goal(4, "or p not p");
        Bench.is(0, "provable", x -> x.provable());
        Bench.is(1, "classical", x -> x.classical());
        Bench.says("promise 28: the least set: none in it, one, all");
        Bench.is(0, "against p", x -> x.against());
        Bench.goal(1, "no");
        Bench.is(0, "against no", x -> x.against());
        for (int atom = 0; atom < 8; atom++) {
            int bit = atom;
            Bench.hypotheses(1, "a " + (char) ('p' + atom) + ";");
            Bench.is(1 << bit, "against", x -> x.against());
        }
        Bench.hypotheses(1, "a and p and q and r and s and t and u and v w;");
        Bench.is(255, "against", x -> x.against());
        Bench.hypotheses(2, "a and q and r and s and t and u and v w; b not p;");
        Bench.is(254, "against", x -> x.against());
        Bench.goal(1, "p");
        Bench.is(254, "against", x -> x.against());
        Bench.goal(1, "w");
        Bench.is(-1, "against", x -> x.against());
        Bench.says("promise 28: TRUE by a set: an ATOM, no, not, imp, and, or");
        against(0, "p");
        against(-1, "not no");
        against(1, "not p");
        against(1, "imp p q");
        against(2, "imp q p");
        against(3, "imp and p q no");
        against(0, "or p q");
        against(0, "imp or p not p r");
        against(1, "or q not p");
    }

    private static void against(int want, String text) {
        Bench.feed(text);
        Bench.does(1, text, x -> x.goal(text.length()) > 0 ? 1 : 0);
        Bench.is(want, "against " + text, x -> x.against());
        Bench.is(want < 0 ? 1 : 0, "classical " + text, x -> x.classical());
    }

    // ---- 512 calls

    /** As many unlike FORMULAS as 510 calls can tell: the last ones are still told apart. */
    private static void manyFormulas() {
        Bench.says("An object is used for at most 512 calls");
        for (int round = 0; round < 15; round++) {
            StringBuilder b = new StringBuilder();
            for (int k = 0; k < 6; k++) {
                b.append((char) ('a' + k)).append(' ').append(unlike(round * 6 + k)).append(';');
            }
            Bench.hypotheses(6, b.toString());
        }
        Bench.same("FORMULA", Bench.hypothesisSpelt(5, 1), unlike(89));
        Bench.same("FORMULA", Bench.hypothesisSpelt(0, 1), unlike(84));
        Bench.proof(3, 0, "pair a f");
        Bench.proves(0, "and " + unlike(84) + " " + unlike(89));
        Bench.is(3, "unlike FORMULAS", x -> x.size(0, 3));
        Bench.feed("app f a");
        Bench.does(-35, "an or is no imp", x -> x.proof(0, 7));
    }

    private static String unlike(int number) {
        StringBuilder b = new StringBuilder();
        int rest = number;
        for (int i = 0; i < 13; i++) {
            b.append("or ").append((char) ('p' + (rest & 7))).append(' ');
            rest = rest * 5 + 3 + (rest >> 3);
        }
        return b.append("imp ").append((char) ('p' + number % 8)).append(' ').append((char) ('p' + number / 8 % 8)).toString();
    }

    public static void main(String[] args) {
        allSlots();
        aheadOfNone();
        newObject();
        feeding();
        texts();
        proofs();
        faults();
        dropping();
        counting();
        showing();
        spelling();
        measuring();
        stepping();
        normalising();
        tracing();
        cutting();
        numberingLines();
        showingLines();
        comparing();
        siding();
        searching();
        searchingSides();
        truth();
        manyFormulas();
        Bench.end();
    }
}
