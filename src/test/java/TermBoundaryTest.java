/** Section 2 of the document: each sentence on REDEXES, STEPS, spelling, LINES and the like that names a boundary case. */
public final class TermBoundaryTest {
    private static final String GIVEN = "a p; d or p q; n no; f and p q; g imp p q;";

    private static void given(String sentence) {
        Bench.says(sentence);
        Bench.hypotheses(5, GIVEN);
    }

    // ---- NODES, REDEXES

    private static void nodes() {
        given("NODES of a TERM: it and TERMS in it");
        Bench.proof(1, 0, "a");
        Bench.is(1, "NODES", x -> x.size(0, 0));
        Bench.is(1, "within one another", x -> x.size(0, 1));
        Bench.proof(6, 0, "case d b inl q b c inr p c");
        Bench.is(6, "NODES", x -> x.size(0, 0));
        Bench.is(3, "within one another", x -> x.size(0, 1));
        Bench.proof(2, 0, "abort " + Bench.times(29, "not ") + "p n");
        Bench.is(2, "NODES", x -> x.size(0, 0));
    }

    private static void redex(int kind, String text) {
        given("REDEXES, by KINDS: " + text);
        Bench.feed(text);
        Bench.does(1, text + " is read", x -> x.proof(0, text.length()) > 0 ? 1 : 0);
        for (int asked = 1; asked <= 7; asked++) {
            int k = asked;
            Bench.is(k == kind ? 1 : 0, "redexes " + k, x -> x.redexes(0, k));
        }
        Bench.is(kind == 0 ? 0 : 1, "redexes 0", x -> x.redexes(0, 0));
        Bench.is(kind == 0 ? 1 : 0, "NORMAL", x -> x.size(0, 6));
        Bench.does(kind, "step", x -> x.step(0));
    }

    private static void redexes() {
        redex(1, "app fun b p b a");
        redex(2, "fst pair a n");
        redex(3, "snd pair a n");
        redex(4, "case inl q a b b c a");
        redex(5, "case inr q a b a c c");
        redex(6, "app case d b g c g a");
        redex(6, "fst case d b f c f");
        redex(6, "snd case d b f c f");
        redex(6, "case case d b d c d b n c n");
        redex(6, "abort p case d b n c n");
        redex(7, "app abort imp p q n a");
        redex(7, "fst abort and p q n");
        redex(7, "snd abort and p q n");
        redex(7, "case abort or p q n b n c n");
        redex(7, "abort p abort no n");
    }

    private static void normalOnes() {
        String[] all = {"a", "app g a", "fst f", "snd f", "abort p n", "fun b p b", "pair a n", "inl q a", "inr q a",
            "case d b n c n", "app g case d b b c a", "app g abort p n", "app g fst f",
            "pair fun b p b a", "pair case d b n c n abort p n", "inl q case d b n c n", "inr q case d b n c n",
            "inl q abort p n", "inr q abort p n", "fun b p case d b n c n", "fun b p abort q n", "fun b p fun b p b",
            "case d b case d b n c n c n", "case d b n c case d b n c n", "case d b abort p n c a", "case d b pair a b c pair a a",
            "case d b inl q b c inr p c", "case d b fun e p e c fun e p e"};
        for (String text : all) {
            redex(0, text);
        }
    }

    // ---- STEPS

    private static void stepTo(String sentence, int kind, String text, String becomes) {
        given(sentence);
        Bench.feed(text);
        Bench.does(1, text + " is read", x -> x.proof(3, text.length()) > 0 ? 1 : 0);
        Bench.is(kind == 0 ? 1 : 0, "NORMAL", x -> x.size(3, 6));
        Bench.does(kind, "step of " + text, x -> x.step(3));
        Bench.term(3, becomes);
        Bench.feed(becomes);
        Bench.does(1, becomes + " is read", x -> x.proof(1, becomes.length()) > 0 ? 1 : 0);
        Bench.is(1, "equal to what is told so", x -> x.equal(1, 3));
    }

    private static void contracta() {
        stepTo("1 its TERM, with the second one in place of its NAME", 1, "app fun b p pair b b a", "pair a a");
        stepTo("1: the NAME is not in it", 1, "app fun b p n a", "n");
        stepTo("1: an inner NAME of the same letters is another one", 1, "app fun b p fun b q b a", "fun xa q xa");
        stepTo("2 the first", 2, "fst pair a n", "a");
        stepTo("3 the second", 3, "snd pair a n", "n");
        stepTo("4 the TERM behind the first NAME, with what is in inl", 4, "case inl q a b pair b b c pair a a", "pair a a");
        stepTo("5 the TERM behind the second NAME, with what is in inr", 5, "case inr q a b pair a a c pair c a", "pair a a");
        stepTo("6 that case outside: app", 6, "app case d b g c g a", "case d xa app g a xa app g a");
        stepTo("6 that case outside: fst", 6, "fst case d b pair b snd f c f", "case d xa fst pair xa snd f xa fst f");
        stepTo("6 that case outside: snd", 6, "snd case d b f c f", "case d xa snd f xa snd f");
        stepTo("6 that case outside: case", 6, "case case d b inl p b c inr p a h pair h a i pair a i",
            "case d xa case inl p xa xb pair xb a xb pair a xb xa case inr p a xb pair xb a xb pair a xb");
        stepTo("6 that case outside: abort", 6, "abort r case d b n c n", "case d xa abort r n xa abort r n");
        stepTo("7 abort of what the other one PROVES: app", 7, "app abort imp p and q r n a", "abort and q r n");
        stepTo("7 abort of what the other one PROVES: fst", 7, "fst abort and p q n", "abort p n");
        stepTo("7 abort of what the other one PROVES: snd", 7, "snd abort and p q n", "abort q n");
        stepTo("7 abort of what the other one PROVES: case", 7, "case abort or p q n b pair b a c pair a a", "abort and p p n");
        stepTo("7 abort of what the other one PROVES: abort", 7, "abort r abort no n", "abort r n");
        stepTo("6 that case outside: its own first TERM has a NAME in it", 6, "fun b or p q fst case b c f e f",
            "fun xa or p q case xa xb fst f xb fst f");
        stepTo("7 of a case that PROVES a NAME's FORMULA", 7, "fun h s case abort or p q n b h c h", "fun xa s abort s n");
    }

    /** Other SLOTS are asked between, so that nothing that was found for them is taken for this one's. */
    private static void otherSlots() {
        given("7 abort of what the other one PROVES, whatever was asked ahead of it");
        Bench.proof(4, 0, "app abort imp p s n a");
        Bench.proof(4, 1, "fst pair n a");
        Bench.is(3, "unlike FORMULAS of another SLOT", x -> x.size(1, 3));
        Bench.does(7, "step", x -> x.step(0));
        Bench.term(0, "abort s n");
        Bench.proves(0, "s");
    }

    private static void firstRedex() {
        String first = "A STEP: the first REDEX by its first word";
        stepTo(first, 2, "fst pair app fun b p b a n", "app fun xa p xa a");
        stepTo(first, 1, "pair app fun b p b a fst pair a a", "pair a fst pair a a");
        stepTo(first, 3, "pair a pair snd pair n a fst pair a a", "pair a pair a fst pair a a");
        stepTo(first, 6, "fst case d b pair fst f fst pair snd f b c f",
            "case d xa fst pair fst f fst pair snd f xa xa fst f");
        stepTo(first, 1, "app fun b p fst pair b b snd pair n a", "fst pair snd pair n a snd pair n a");
        stepTo(first, 2, "case d b fst pair b n c snd pair n a", "case d xa xa xa snd pair n a");
        stepTo("0: it is NORMAL", 0, "case d b app g b c c", "case d xa app g xa xa xa");
    }

    private static void noCapture() {
        String apart = "no NAME in it becomes one of those around its new place";
        stepTo(apart, 1, "fun c p app fun b p fun c p b c", "fun xa p fun xb p xa");
        stepTo(apart, 1, "fun c p app fun b p fun c q fun e q pair b c c", "fun xa p fun xb q fun xc q pair xa xb");
        stepTo(apart, 1, "app fun b imp p q fun c p app b c fun c p app g c", "fun xa p app fun xb p app g xb xa");
        stepTo("a fun that is put under other NAMES keeps its own", 1, "fun c p app fun b imp p p fun e q b fun z p z",
            "fun xa p fun xb q fun xc p xc");
        stepTo("a case that is put under other NAMES keeps its own", 1,
            "fun c p app fun b or p q fun e q fun i q b case d y inl q y z inr p z",
            "fun xa p fun xb q fun xc q case d xd inl q xd xd inr p xd");
        stepTo(apart, 4, "fun c p case inl q c b fun c p b e fun z p z", "fun xa p fun xb p xa");
        stepTo(apart, 5, "fun c q case inr p c b fun z p c e fun c p e", "fun xa q fun xb p xa");
        stepTo(apart, 6, "fun b p app case d c fun e p b c fun e p b b",
            "fun xa p case d xb app fun xc p xa xa xb app fun xc p xa xa");
        stepTo(apart, 6, "fun b p case case d c inl p c c inr p a e b c b",
            "fun xa p case d xb case inl p xb xc xa xc xa xb case inr p a xc xa xc xa");
        stepTo("a HYPOTHESIS put under a NAME of the same letters is meant still", 1,
            "app fun b p fun a q pair a b a", "fun xa q pair xa a");
        Bench.says(apart + ": by cut");
        Bench.hypotheses(2, "a p; g imp p p;");
        Bench.proof(2, 0, "fun a q g");
        Bench.proof(2, 1, "fun z p a");
        Bench.does(3, "cut", x -> x.cut(0, 1, 1, 2));
        Bench.term(2, "fun xa q fun xb p a");
    }

    // ---- SPELT

    private static String name(int level) {
        String low = "" + (char) ('a' + level % 26);
        return "x" + (level < 26 ? low : (char) ('a' + level / 26) + low);
    }

    private static void spelling() {
        given("words with one blank between");
        Bench.proof(6, 0, "  case   d  b  inl   q   b   c   inr  p    c  ");
        Bench.term(0, "case d xa inl q xa xa inr p xa");
        given("NAMES of HYPOTHESES as told, all others x and how many tell NAMES there");
        Bench.hypotheses(3, "x p; name q; a or p q;");
        Bench.proof(9, 0, "fun name q case a x pair x name zz pair x zz");
        Bench.term(0, "fun xa q case a xb pair xb xa xb pair x xb");
        given("NAMES of HYPOTHESES of 1 to 4 letters, as told");
        Bench.hypotheses(4, "a p; bc p; def p; ghij p;");
        Bench.proof(9, 0, "pair pair a bc pair def pair ghij a");
        Bench.term(0, "pair pair a bc pair def pair ghij a");
        given("of case: of that TERM, not of the others in it");
        Bench.proof(7, 0, "case app fun b or p q b d e n i n");
        Bench.term(0, "case app fun xa or p q xa d xa n xa n");
        given("FORMULAS without not (imp, no in its place)");
        Bench.proof(3, 0, "fun b not p inl not not q b");
        Bench.term(0, "fun xa imp p no inl imp imp q no no xa");
        Bench.proves(0, "imp imp p no or imp p no imp imp q no no");
        given("THE PROGRAM: the same without FORMULAS");
        Bench.proof(12, 0, "pair fun b p inl q b pair inr q a app fun b no abort p b n");
        Bench.same("THE PROGRAM", Bench.spelt(0, 1), "pair fun xa inl xa pair inr a app fun xa abort xa n");
        Bench.same("TERM", Bench.spelt(0, 0), "pair fun xa p inl q xa pair inr q a app fun xa no abort p xa n");
    }

    private static void manyNames() {
        Bench.says("xa for the outermost one, xz the 26th, xba the 27th");
        Bench.hypotheses(2, "h p; g p;");
        Bench.proof(73, 0, Bench.times(24, "app fun a p ") + "g" + Bench.times(24, " h"));
        Bench.proof(10, 1, "app fun a p app fun b p app fun c p c b a h");
        Bench.does(82, "cut", x -> x.cut(0, 1, 1, 2));
        Bench.term(2, told(24) + "app fun xy p app fun xz p app fun xba p xba xz xy h" + Bench.times(24, " h"));
        Bench.does(145, "cut", x -> x.cut(0, 1, 0, 2));
        Bench.term(2, told(48) + "g" + Bench.times(48, " h"));
        Bench.proof(55, 1, Bench.times(18, "app fun a p ") + "a" + Bench.times(18, " h"));
        Bench.does(199, "cut", x -> x.cut(2, 1, 1, 2));
        Bench.term(2, told(66) + "xcn" + Bench.times(66, " h"));
        Bench.says("NAMES to the base of 26, as deep as NODES allow");
        Bench.hypotheses(2, "f imp " + Bench.times(13, "imp q ") + "p p; h p;");
        Bench.proof(16, 0, "app f " + Bench.times(13, "fun a q ") + "h");
        Bench.does(31, "cut", x -> x.cut(0, 1, 0, 1));
        Bench.does(61, "cut", x -> x.cut(1, 1, 1, 1));
        Bench.does(121, "cut", x -> x.cut(1, 1, 1, 2));
        Bench.does(181, "cut", x -> x.cut(2, 1, 1, 2));
        Bench.does(196, "cut", x -> x.cut(2, 1, 0, 2));
        StringBuilder b = new StringBuilder();
        for (int i = 0; i < 169; i++) {
            b.append(i % 13 == 0 ? "app f " : "").append("fun ").append(name(i)).append(' ');
        }
        Bench.same("THE PROGRAM", Bench.spelt(2, 1), b + "h");
        Bench.is(353, "LINES", x -> x.lines(2));
        Bench.is(1, "RULE where the deepest is taken on", x -> x.line(2, 170, 0));
        Bench.is(169, "DEEP", x -> x.line(2, 170, 4));
        Bench.is(168, "DEEP of the fun", x -> x.line(2, 171, 4));
        Bench.is(170, "FROM", x -> x.line(2, 171, 1));
        Bench.is(1, "FROM", x -> x.line(2, 171, 2));
        Bench.no(-2, "line 353", x -> x.line(2, 353, 0));
    }

    private static String told(int levels) {
        StringBuilder b = new StringBuilder();
        for (int i = 0; i < levels; i++) {
            b.append("app fun ").append(name(i)).append(" p ");
        }
        return b.toString();
    }

    // ---- LINES

    /** A LINE as RULE, FROM, DEEP and FORMULA. */
    private static void line(int k, String want) {
        StringBuilder b = new StringBuilder();
        for (int what = 0; what <= 4; what++) {
            int w = what;
            b.append(Bench.ask(x -> x.line(0, k, w))).append(' ');
        }
        Bench.same("line " + k, b + Bench.lineSpelt(0, k), want);
    }

    private static void lines() {
        given("first one for each HYPOTHESIS (RULE 0), a NAME: none");
        Bench.proof(1, 0, "f");
        Bench.is(5, "lines", x -> x.lines(0));
        line(0, "0 -1 -1 -1 0 p");
        line(4, "0 -1 -1 -1 0 imp p q");
        Bench.no(-2, "line 5", x -> x.line(0, 5, 0));
        Bench.says("no HYPOTHESES: the first LINE is of the TERM");
        Bench.proof(2, 0, "fun a p a");
        Bench.is(2, "lines", x -> x.lines(0));
        line(0, "1 -1 -1 -1 1 p");
        line(1, "2 0 0 -1 0 imp p p");
        given("2 fun (the one taken on, ahead of that), 3 app, 4 pair");
        Bench.proof(6, 0, "pair fun b q a app g a");
        line(5, "1 -1 -1 -1 1 q");
        line(6, "2 5 0 -1 0 imp q p");
        line(7, "3 4 0 -1 0 q");
        line(8, "4 6 7 -1 0 and imp q p q");
        given("5 fst, 6 snd, 7 inl, 8 inr, 10 abort");
        Bench.proof(10, 0, "pair inl r fst f pair inr r snd f abort s n");
        line(5, "5 3 -1 -1 0 p");
        line(6, "7 5 -1 -1 0 or p r");
        line(7, "6 3 -1 -1 0 q");
        line(8, "8 7 -1 -1 0 or r q");
        line(9, "10 2 -1 -1 0 s");
        line(10, "4 8 9 -1 0 and or r q s");
        line(11, "4 6 10 -1 0 and or p r and or r q s");
        given("9 case: three LINES that it is from, one taken on ahead of each TERM behind a NAME");
        Bench.proof(6, 0, "case d b inl q b c inr p c");
        Bench.is(10, "lines", x -> x.lines(0));
        line(5, "1 -1 -1 -1 1 p");
        line(6, "7 5 -1 -1 1 or p q");
        line(7, "1 -1 -1 -1 1 q");
        line(8, "8 7 -1 -1 1 or p q");
        line(9, "9 1 6 8 0 or p q");
        given("a NAME: the LINE is that of its HYPOTHESIS, or where it was taken on");
        Bench.proof(7, 0, "fun a q fun b r pair a pair b f");
        line(5, "1 -1 -1 -1 1 q");
        line(6, "1 -1 -1 -1 2 r");
        line(7, "4 6 3 -1 2 and r and p q");
        line(8, "4 5 7 -1 2 and q and r and p q");
        line(9, "2 6 8 -1 1 imp r and q and r and p q");
        line(10, "2 5 9 -1 0 imp q imp r and q and r and p q");
        given("a NAME behind a NAME: where it was taken on is all that the arm is");
        Bench.proof(5, 0, "case inl p a b b c c");
        line(5, "7 0 -1 -1 0 or p p");
        line(6, "1 -1 -1 -1 1 p");
        line(7, "1 -1 -1 -1 1 p");
        line(8, "9 5 6 7 0 p");
    }

    // ---- STRAY, SIDE

    private static void stray(int unlike, int stray, String text) {
        Bench.feed(text);
        Bench.does(1, text + " is read", x -> x.proof(0, text.length()) > 0 ? 1 : 0);
        Bench.is(unlike, "unlike FORMULAS of " + text, x -> x.size(0, 3));
        Bench.is(stray, "STRAY of " + text, x -> x.size(0, 4));
    }

    private static void strayOnes() {
        given("STRAY: FORMULAS (unlike ones) that some TERM in it PROVES");
        stray(1, 0, "a");
        stray(3, 1, "fst pair a n");
        stray(4, 2, "fst pair a pair n n");
        stray(5, 3, "fst pair a pair pair n n pair n n");
        given("that are PARTS of no HYPOTHESIS (itself is one)");
        stray(2, 0, "fst f");
        stray(3, 0, "app g a");
        stray(3, 0, "fst pair fst f snd f");
        stray(4, 1, "snd pair snd f fst f");
        given("and not of what the TERM PROVES (itself is one)");
        stray(3, 0, "pair n a");
        stray(3, 0, "pair pair n n pair n n");
        stray(5, 0, "pair pair n n pair n a");
        given("a FORMULA that only THE GOAL has is STRAY");
        Bench.goal(3, "and p no");
        stray(3, 1, "fst pair a n");
        given("HYPOTHESES that the TERM does not name count, too");
        Bench.hypotheses(2, "a p; b and p p;");
        stray(2, 0, "fst pair a a");
        Bench.hypotheses(1, "a p;");
        stray(2, 1, "fst pair a a");
    }

    private static void sides() {
        given("SIDE of a TERM that PROVES an or: 0, 1, if it, made NORMAL, is an inl, an inr");
        Bench.proof(2, 0, "inl q a");
        Bench.is(0, "inl", x -> x.side(0));
        Bench.proof(2, 0, "inr q a");
        Bench.is(1, "inr", x -> x.side(0));
        Bench.proof(6, 0, "case inr q a b d c inl q c");
        Bench.is(0, "made NORMAL", x -> x.side(0));
        Bench.proof(1, 0, "d");
        Bench.is(-1, "neither", x -> x.side(0));
        Bench.proof(6, 0, "case d b inl q b c inl q a");
        Bench.is(-1, "neither, though both TERMS behind are", x -> x.side(0));
        Bench.proof(2, 0, "abort or p q n");
        Bench.is(-1, "neither", x -> x.side(0));
        Bench.proof(2, 0, "fun b p b");
        Bench.no(-5, "no or", x -> x.side(0));
    }

    public static void main(String[] args) {
        nodes();
        redexes();
        normalOnes();
        contracta();
        otherSlots();
        firstRedex();
        noCapture();
        spelling();
        manyNames();
        lines();
        strayOnes();
        sides();
        Bench.end();
    }
}
