import java.util.ArrayList;
import java.util.List;

/**
 * What the boundary tests stand on: runs of calls, each told with the sentence of the document that
 * it tests. Of a refused call it is asked, too, that nothing shows it: a second object has had the
 * same calls but that one, and both must answer all later calls alike. No object has more than 512 calls.
 */
final class Bench {
    static final int[] NO_SLOTS = {-1, 4, Integer.MIN_VALUE, Integer.MAX_VALUE};
    private static final int CALLS = 512;
    private static final int QUESTIONS = 180;
    private static final int CHANGES = 90;

    interface Call {
        int on(ProofTrim x);
    }

    private static int wrong = 0;
    private static int sentences = 0;
    private static int asked = 0;
    private static String sentence = "";
    private static List<Call> log = new ArrayList<>();
    private static ProofTrim live;
    private static int used;

    private Bench() {
    }

    /** A new object, for one sentence of the document. */
    static void says(String text) {
        sentence = text;
        sentences++;
        log = new ArrayList<>();
        live = new ProofTrim();
        used = 0;
    }

    static void blame(String what) {
        wrong++;
        System.out.println("'" + sentence + "': " + what);
    }

    private static ProofTrim again() {
        ProofTrim x = new ProofTrim();
        for (Call c : log) {
            c.on(x);
        }
        return x;
    }

    /** The answer of a call that changes nothing. */
    static int ask(Call c) {
        if (used >= CALLS) {
            live = again();
            used = log.size();
        }
        used++;
        asked++;
        return c.on(live);
    }

    private static void compare(String what, int got, int want) {
        if (got != want) {
            blame(what + " answered " + got + ", due is " + want);
        }
    }

    /** A call that may change something. */
    static void does(int want, String what, Call c) {
        if (log.size() >= CALLS) {
            blame("too many calls");
            return;
        }
        compare(what, ask(c), want);
        log.add(c);
    }

    /** A call that changes nothing, and is not refused. */
    static void is(int want, String what, Call c) {
        compare(what, ask(c), want);
    }

    /** A call that is refused and changes nothing. */
    static void no(int code, String what, Call c) {
        compare(what, ask(c), code);
        unchanged(what, c, false);
    }

    // ---- texts

    static void feed(String text) {
        for (int i = 0; i < text.length(); i += 20) {
            int[] v = new int[5];
            for (int k = 0; k < 20; k++) {
                v[k / 4] = v[k / 4] << 8 | (i + k < text.length() ? text.charAt(i + k) & 255 : 32);
            }
            Call c = x -> x.feed(v[0], v[1], v[2], v[3], v[4]);
            ask(c);
            log.add(c);
        }
    }

    static void hypotheses(int want, String text) {
        feed(text);
        does(want, "hypotheses '" + text + "'", x -> x.hypotheses(text.length()));
    }

    static void goal(int want, String text) {
        feed(text);
        does(want, "goal '" + text + "'", x -> x.goal(text.length()));
    }

    static void proof(int want, int slot, String text) {
        feed(text);
        does(want, "proof '" + text + "'", x -> x.proof(slot, text.length()));
    }

    static void faultyHypotheses(int kind, int place, String text) {
        faulty(kind, place, "hypotheses", text, x -> x.hypotheses(text.length()));
    }

    static void faultyGoal(int kind, int place, String text) {
        faulty(kind, place, "goal", text, x -> x.goal(text.length()));
    }

    /** By each SLOT that there is in turn, so that full ones and empty ones are asked. */
    static void faultyProof(int kind, int place, String text) {
        int slot = sentences % 4;
        faulty(kind, place, "proof", text, x -> x.proof(slot, text.length()));
    }

    /** The object goes on as if the text had not been told: that it does not show is asked first. */
    private static void faulty(int kind, int place, String what, String text, Call c) {
        int before = log.size();
        feed(text);
        String told = what + " '" + text + "'";
        compare(told, ask(c), -30 - kind);
        compare(told + ", FAULT", ask(x -> x.fault(0)), kind);
        compare(told + ", place", ask(x -> x.fault(1)), place);
        compare(told + ", THE TAPE", ask(x -> x.count(2)), 0);
        unchanged(told, c, true);
        while (log.size() > before) {
            log.remove(log.size() - 1);
        }
        used = CALLS;
    }

    // ---- whether a refused call shows

    private static void unchanged(String what, Call refused, boolean text) {
        if (log.size() > CALLS - QUESTIONS - CHANGES) {
            blame("too many calls");
            return;
        }
        List<Call> questions = questions(text);
        for (int from = 0; from < questions.size(); from += QUESTIONS) {
            ProofTrim without = again();
            ProofTrim with = again();
            refused.on(with);
            int to = Math.min(questions.size(), from + QUESTIONS);
            for (int i = from; i < to; i++) {
                alike(what + ", then question " + i, questions.get(i), with, without);
            }
            if (to == questions.size()) {
                goOn(what, with, without, text);
            }
        }
    }

    private static void alike(String what, Call c, ProofTrim with, ProofTrim without) {
        asked++;
        compare(what, c.on(with), c.on(without));
    }

    private static List<Call> questions(boolean text) {
        ProofTrim x = again();
        List<Call> all = new ArrayList<>();
        for (int what = 0; what <= 3; what++) {
            int w = what;
            if (!text || what != 2) {
                all.add(y -> y.count(w));
            }
        }
        if (!text) {
            all.add(y -> y.fault(0));
            all.add(y -> y.fault(1));
        }
        for (int k = 0; k < x.count(3); k += 1 + k / 3) {
            int step = k;
            all.add(y -> y.trace(step));
        }
        askGiven(x.count(0), all);
        for (int slot = 0; slot < 4; slot++) {
            int s = slot;
            for (int other = 0; other < 4; other++) {
                int o = other;
                all.add(y -> y.equal(s, o));
                all.add(y -> y.alike(s, o));
            }
            if ((x.count(1) >> slot & 1) != 0) {
                askSlot(slot, x.length(slot, 0), x.length(slot, 2), x.lines(slot), all);
            }
        }
        all.add(y -> y.provable());
        all.add(y -> y.bySide(0));
        all.add(y -> y.bySide(1));
        all.add(y -> y.classical());
        all.add(y -> y.against());
        return all;
    }

    private static void askGiven(int many, List<Call> all) {
        for (int k = 0; k < many; k++) {
            int h = k;
            for (int i = 0; i < 5; i++) {
                int letter = i;
                all.add(y -> y.hypothesis(h, 0, letter));
            }
            for (int i = 0; i < 120; i += 1 + i / 8) {
                int letter = i;
                all.add(y -> y.hypothesis(h, 1, letter));
            }
        }
        for (int i = 0; i < 120; i += 1 + i / 8) {
            int letter = i;
            all.add(y -> y.goalByte(letter));
        }
    }

    private static void askSlot(int slot, int bytes, int formulaBytes, int lines, List<Call> all) {
        for (int what = 0; what <= 6; what++) {
            int w = what;
            all.add(y -> y.size(slot, w));
        }
        for (int kind = 0; kind <= 7; kind++) {
            int w = kind;
            all.add(y -> y.redexes(slot, w));
        }
        for (int i = 0; i <= bytes; i += 1 + i / 8) {
            int at = i;
            all.add(y -> y.spell(slot, 0, at));
            all.add(y -> y.spell(slot, 1, at));
        }
        for (int i = 0; i <= formulaBytes; i += 1 + i / 8) {
            int at = i;
            all.add(y -> y.spell(slot, 2, at));
        }
        for (int k = lines; k >= 0; k -= 1 + (lines - k) / 2) {
            int line = k;
            for (int what = 0; what <= 4; what++) {
                int w = what;
                all.add(y -> y.line(slot, line, w));
            }
            all.add(y -> y.lineByte(slot, line, 4));
        }
        all.add(y -> y.side(slot));
    }

    /** Calls that change much, answered alike by both. */
    private static void goOn(String what, ProofTrim with, ProofTrim without, boolean text) {
        if (text) {
            // THE TAPE is empty by the refused text; a text that can't be empties it here as well.
            without.goal(0);
            with.goal(0);
        }
        List<Call> all = new ArrayList<>();
        all.add(x -> x.feed(0x20202020, 0x20202020, 0x20202020, 0x20202020, 0x20202070));
        all.add(x -> x.count(2));
        all.add(x -> x.goal(x.count(2)));
        all.add(x -> x.fault(1));
        for (int slot = 0; slot < 4; slot++) {
            int s = slot;
            all.add(x -> x.step(s));
            all.add(x -> x.length(s, 0));
            all.add(x -> x.normal(s));
            all.add(x -> x.trace(0));
            all.add(x -> x.length(s, 0));
            for (int k = 0; k < 6; k++) {
                int h = k;
                all.add(x -> x.cut(s, h, (s + 1) % 4, (s + 2) % 4));
                all.add(x -> x.cut(s, h, s, (s + 2) % 4));
            }
        }
        for (int slot = 0; slot < 4; slot++) {
            int s = slot;
            all.add(x -> x.drop(s));
        }
        all.add(x -> x.feed(0x70202020, 0, 0, 0, 0));
        all.add(x -> x.goal(1));
        all.add(x -> x.hypotheses(0));
        all.add(x -> x.count(0));
        all.add(x -> x.provable());
        for (int i = 0; i < all.size(); i++) {
            alike(what + ", going on, call " + i, all.get(i), with, without);
        }
    }

    // ---- what is spelt

    static String spelt(int slot, int what) {
        return text(i -> ask(x -> x.spell(slot, what, i)));
    }

    static String goalSpelt() {
        return text(i -> ask(x -> x.goalByte(i)));
    }

    static String hypothesisSpelt(int k, int what) {
        return text(i -> ask(x -> x.hypothesis(k, what, i)));
    }

    static String lineSpelt(int slot, int k) {
        return text(i -> ask(x -> x.lineByte(slot, k, i)));
    }

    interface Bytes {
        int at(int i);
    }

    private static String text(Bytes bytes) {
        StringBuilder b = new StringBuilder();
        for (int i = 0; bytes.at(i) >= 0; i++) {
            b.append((char) bytes.at(i));
        }
        return b.toString();
    }

    static void same(String what, String got, String want) {
        if (!got.equals(want)) {
            blame(what + " is '" + got + "', due is '" + want + "'");
        }
    }

    /** A SLOT's TERM, and that its length is told alike. */
    static void term(int slot, String want) {
        same("TERM", spelt(slot, 0), want);
        is(want.length(), "length", x -> x.length(slot, 0));
    }

    static void proves(int slot, String want) {
        same("what it PROVES", spelt(slot, 2), want);
        is(want.length(), "length of what it PROVES", x -> x.length(slot, 2));
    }

    static String times(int n, String text) {
        StringBuilder b = new StringBuilder();
        for (int i = 0; i < n; i++) {
            b.append(text);
        }
        return b.toString();
    }

    static void end() {
        System.out.println(sentences + " sentences, " + asked + " answers, " + wrong + " not as due");
        if (wrong != 0) {
            System.exit(1);
        }
    }
}
