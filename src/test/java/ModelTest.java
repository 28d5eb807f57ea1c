import java.util.ArrayList;
import java.util.HashMap;
import java.util.HashSet;
import java.util.List;
import java.util.Map;
import java.util.Random;
import java.util.Set;

/**
 * Random runs of calls, each answered by ProofTrim and by a plain model of the document: trees of
 * objects, recursion, texts as Strings. Every call whose answers differ is printed.
 */
public final class ModelTest {
    private static int wrong = 0;
    private static long calls = 0;
    private static final Map<String, Integer> seen = new java.util.TreeMap<>();

    // ---- FORMULAS

    static final class F {
        final String word;
        final F left;
        final F right;
        final String text;

        F(String word, F left, F right) {
            this.word = word;
            this.left = left;
            this.right = right;
            this.text = left == null ? word : word + " " + left.text + " " + right.text;
        }

        boolean is(String kind) {
            return word.equals(kind);
        }

        boolean same(F other) {
            return text.equals(other.text);
        }

        void parts(Set<String> into) {
            into.add(text);
            if (left != null) {
                left.parts(into);
                right.parts(into);
            }
        }

        int words() {
            return text.split(" ").length;
        }

        boolean holds(int set) {
            switch (word) {
                case "no": return false;
                case "imp": return !left.holds(set) || right.holds(set);
                case "and": return left.holds(set) && right.holds(set);
                case "or": return left.holds(set) || right.holds(set);
                default: return (set >> (word.charAt(0) - 'p') & 1) != 0;
            }
        }
    }

    static final F FALSE = new F("no", null, null);

    // ---- TERMS: a bound NAME is its Binder object

    static final class Binder {
        F type;
    }

    static final class T {
        String op;
        F told;
        Binder binder;
        int hypothesis;
        T[] kids = {};
        Binder[] binders = {};
        int place;
        F proves;

        T copy(Map<Binder, Binder> map) {
            T t = new T();
            t.op = op;
            t.told = told;
            t.binder = map.getOrDefault(binder, binder);
            t.hypothesis = hypothesis;
            t.binders = new Binder[binders.length];
            for (int i = 0; i < binders.length; i++) {
                t.binders[i] = new Binder();
                map.put(binders[i], t.binders[i]);
            }
            t.kids = new T[kids.length];
            for (int i = 0; i < kids.length; i++) {
                t.kids[i] = kids[i].copy(map);
            }
            return t;
        }

        T fresh() {
            return copy(new HashMap<>());
        }

        int nodes() {
            int sum = 1;
            for (T kid : kids) {
                sum += kid.nodes();
            }
            return sum;
        }

        int height() {
            int most = 0;
            for (T kid : kids) {
                most = Math.max(most, kid.height());
            }
            return most + 1;
        }

        /** Which binder kid i stands behind, or null. */
        Binder binderOf(int i) {
            if (op.equals("fun")) {
                return binders[0];
            }
            return op.equals("case") && i > 0 ? binders[i - 1] : null;
        }
    }

    static T node(String op, F told, Binder[] binders, T... kids) {
        T t = new T();
        t.op = op;
        t.told = told;
        t.binders = binders;
        t.kids = kids;
        return t;
    }

    static final class Fault extends RuntimeException {
        private static final long serialVersionUID = 1L;
        final int kind;
        final int place;

        Fault(int kind, int place) {
            this.kind = kind;
            this.place = place;
        }
    }

    // ---- reading

    static final class Scanner {
        final byte[] text;
        final int n;
        int next = 0;
        int at;
        String token;
        int terms = 0;
        int words = 0;
        final List<String> scopeNames = new ArrayList<>();
        final List<Binder> scopeBinders = new ArrayList<>();

        Scanner(byte[] text, int n) {
            this.text = text;
            this.n = n;
        }

        boolean letter(int i) {
            return i < n && text[i] >= 'a' && text[i] <= 'z';
        }

        /** The next word or sign; null at the end. */
        String read() {
            while (next < n && text[next] == 32) {
                next++;
            }
            at = next;
            if (next >= n) {
                at = n;
                token = null;
            } else if (letter(next)) {
                StringBuilder b = new StringBuilder();
                while (letter(next)) {
                    b.append((char) text[next++]);
                }
                token = b.toString();
            } else {
                token = "#" + (text[next++] & 255);
            }
            return token;
        }

        static final Set<String> RESERVED = Set.of("no", "not", "imp", "and", "or", "fun", "app", "pair", "fst", "snd", "inl", "inr", "case");

        boolean name() {
            return token != null && token.charAt(0) != '#' && token.length() <= 4 && !RESERVED.contains(token);
        }

        F formula() {
            words = 0;
            return subformula();
        }

        F subformula() {
            read();
            boolean atom = token != null && token.length() == 1 && "pqrstuvw".contains(token);
            if (token == null || !(atom || Set.of("no", "not", "imp", "and", "or").contains(token))) {
                throw new Fault(1, at);
            }
            if (++words == 31) {
                throw new Fault(4, at);
            }
            String w = token;
            if (atom || w.equals("no")) {
                return new F(w, null, null);
            }
            if (w.equals("not")) {
                return new F("imp", subformula(), FALSE);
            }
            F l = subformula();
            return new F(w, l, subformula());
        }

        Binder bind() {
            read();
            if (!name()) {
                throw new Fault(1, at);
            }
            if (scopeNames.size() >= 24) {
                throw new Fault(4, at);
            }
            Binder b = new Binder();
            scopeNames.add(token);
            scopeBinders.add(b);
            return b;
        }

        void unbind() {
            scopeNames.remove(scopeNames.size() - 1);
            scopeBinders.remove(scopeBinders.size() - 1);
        }

        T term(List<String> hypotheses) {
            read();
            boolean compound = token != null && Set.of("fun", "app", "pair", "fst", "snd", "inl", "inr", "case", "abort").contains(token);
            if (!compound && !name()) {
                throw new Fault(1, at);
            }
            T t = new T();
            t.place = at;
            if (!compound) {
                int level = scopeNames.lastIndexOf(token);
                t.op = "name";
                t.hypothesis = -1;
                if (level >= 0) {
                    t.binder = scopeBinders.get(level);
                } else {
                    t.hypothesis = hypotheses.indexOf(token);
                    if (t.hypothesis < 0) {
                        throw new Fault(3, at);
                    }
                }
            }
            if (++terms == 121) {
                throw new Fault(4, at);
            }
            if (!compound) {
                return t;
            }
            t.op = token;
            switch (t.op) {
                case "fun":
                    t.binders = new Binder[] {bind()};
                    t.told = formula();
                    t.kids = new T[] {term(hypotheses)};
                    unbind();
                    break;
                case "app": case "pair":
                    T one = term(hypotheses);
                    t.kids = new T[] {one, term(hypotheses)};
                    break;
                case "fst": case "snd":
                    t.kids = new T[] {term(hypotheses)};
                    break;
                case "case":
                    T first = term(hypotheses);
                    Binder l = bind();
                    T left = term(hypotheses);
                    unbind();
                    Binder r = bind();
                    T right = term(hypotheses);
                    unbind();
                    t.binders = new Binder[] {l, r};
                    t.kids = new T[] {first, left, right};
                    break;
                default:
                    t.told = formula();
                    t.kids = new T[] {term(hypotheses)};
            }
            return t;
        }

        void end() {
            if (read() != null) {
                throw new Fault(1, at);
            }
        }
    }

    // ---- the model of the object

    static final class Model {
        final List<Integer> tape = new ArrayList<>();
        List<String> names = new ArrayList<>();
        List<F> given = new ArrayList<>();
        F goal = new F("p", null, null);
        T[] slots = new T[4];
        int flaw = 0;
        int place = -1;
        List<Integer> trace = new ArrayList<>();

        static boolean noSlot(int s) {
            return s < 0 || s > 3;
        }

        int feed(int a, int b, int c, int d, int e) {
            if (tape.size() > 580) {
                return -4;
            }
            for (int v : new int[] {a, b, c, d, e}) {
                for (int k = 3; k >= 0; k--) {
                    tape.add(v >> 8 * k & 255);
                }
            }
            return tape.size();
        }

        Scanner take(int n) {
            byte[] bytes = new byte[tape.size()];
            for (int i = 0; i < bytes.length; i++) {
                bytes[i] = (byte) (int) tape.get(i);
            }
            tape.clear();
            flaw = 0;
            place = -1;
            return new Scanner(bytes, n);
        }

        int refuse(Fault f) {
            flaw = f.kind;
            place = f.place;
            return -30 - f.kind;
        }

        int hypotheses(int n) {
            if (n < 0 || n > tape.size()) {
                return -3;
            }
            Scanner s = take(n);
            List<String> toldNames = new ArrayList<>();
            List<F> told = new ArrayList<>();
            try {
                while (s.read() != null) {
                    String name = s.token;
                    if (!s.name()) {
                        throw new Fault(1, s.at);
                    }
                    if (toldNames.contains(name) || name.matches("x.+")) {
                        throw new Fault(2, s.at);
                    }
                    if (told.size() == 6) {
                        throw new Fault(4, s.at);
                    }
                    F f = s.formula();
                    if (!"#59".equals(s.read())) {
                        throw new Fault(1, s.at);
                    }
                    toldNames.add(name);
                    told.add(f);
                }
            } catch (Fault f) {
                return refuse(f);
            }
            names = toldNames;
            given = told;
            slots = new T[4];
            return told.size();
        }

        int goal(int n) {
            if (n < 0 || n > tape.size()) {
                return -3;
            }
            Scanner s = take(n);
            try {
                F f = s.formula();
                int words = s.words;
                s.end();
                goal = f;
                return words;
            } catch (Fault f) {
                return refuse(f);
            }
        }

        int proof(int slot, int n) {
            if (noSlot(slot)) {
                return -2;
            }
            if (n < 0 || n > tape.size()) {
                return -3;
            }
            Scanner s = take(n);
            try {
                T t = s.term(names);
                s.end();
                ask(t);
                slots[slot] = t;
                return t.nodes();
            } catch (Fault f) {
                return refuse(f);
            }
        }

        F must(boolean holds, T t) {
            if (!holds) {
                throw new Fault(5, t.place);
            }
            return t.proves;
        }

        F ask(T t) {
            T[] k = t.kids;
            switch (t.op) {
                case "name":
                    t.proves = t.binder == null ? given.get(t.hypothesis) : t.binder.type;
                    break;
                case "fun":
                    t.binders[0].type = t.told;
                    t.proves = new F("imp", t.told, ask(k[0]));
                    break;
                case "app":
                    ask(k[0]);
                    ask(k[1]);
                    must(k[0].proves.is("imp"), k[0]);
                    must(k[0].proves.left.same(k[1].proves), k[1]);
                    t.proves = k[0].proves.right;
                    break;
                case "pair":
                    ask(k[0]);
                    t.proves = new F("and", k[0].proves, ask(k[1]));
                    break;
                case "fst":
                    ask(k[0]);
                    t.proves = must(k[0].proves.is("and"), k[0]).left;
                    break;
                case "snd":
                    ask(k[0]);
                    t.proves = must(k[0].proves.is("and"), k[0]).right;
                    break;
                case "inl":
                    t.proves = new F("or", ask(k[0]), t.told);
                    break;
                case "inr":
                    t.proves = new F("or", t.told, ask(k[0]));
                    break;
                case "case":
                    ask(k[0]);
                    must(k[0].proves.is("or"), k[0]);
                    t.binders[0].type = k[0].proves.left;
                    t.binders[1].type = k[0].proves.right;
                    ask(k[1]);
                    ask(k[2]);
                    must(k[2].proves.same(k[1].proves), k[2]);
                    t.proves = k[1].proves;
                    break;
                default:
                    ask(k[0]);
                    must(k[0].proves.is("no"), k[0]);
                    t.proves = t.told;
            }
            return t.proves;
        }

        // ---- spelling

        static String bound(int level) {
            String digits = "";
            int rest = level;
            do {
                digits = (char) ('a' + rest % 26) + digits;
                rest /= 26;
            } while (rest > 0);
            return "x" + digits;
        }

        String spelt(T t, boolean formulas, List<Binder> around) {
            if (t.op.equals("name")) {
                return t.binder == null ? names.get(t.hypothesis) : bound(around.lastIndexOf(t.binder));
            }
            StringBuilder b = new StringBuilder(t.op);
            if (t.op.equals("fun")) {
                b.append(" ").append(bound(around.size()));
            }
            if (formulas && t.told != null) {
                b.append(" ").append(t.told.text);
            }
            for (int i = 0; i < t.kids.length; i++) {
                Binder of = t.binderOf(i);
                List<Binder> inner = new ArrayList<>(around);
                if (of != null) {
                    inner.add(of);
                    if (t.op.equals("case")) {
                        b.append(" ").append(bound(around.size()));
                    }
                }
                b.append(" ").append(spelt(t.kids[i], formulas, inner));
            }
            return b.toString();
        }

        String spelt(T t) {
            return spelt(t, true, new ArrayList<>());
        }

        String text(int slot, int what) {
            if (what == 2) {
                return ask(slots[slot]).text;
            }
            return spelt(slots[slot], what == 0, new ArrayList<>());
        }

        static int byteOf(String text, int i) {
            return i < text.length() ? text.charAt(i) : -1;
        }

        // ---- steps

        static int kind(T t) {
            if (t.kids.length == 0 || t.op.equals("fun") || t.op.equals("pair") || t.op.equals("inl") || t.op.equals("inr")) {
                return 0;
            }
            switch (t.op + " " + t.kids[0].op) {
                case "app fun": return 1;
                case "fst pair": return 2;
                case "snd pair": return 3;
                case "case inl": return 4;
                case "case inr": return 5;
                default:
                    return t.kids[0].op.equals("case") ? 6 : t.kids[0].op.equals("abort") ? 7 : 0;
            }
        }

        static T put(T t, Binder name, int hypothesis, T seed) {
            boolean hit = t.op.equals("name") && (name != null ? t.binder == name : t.binder == null && t.hypothesis == hypothesis);
            if (hit) {
                return seed.fresh();
            }
            T r = new T();
            r.op = t.op;
            r.told = t.told;
            r.binder = t.binder;
            r.hypothesis = t.hypothesis;
            r.binders = t.binders;
            r.kids = new T[t.kids.length];
            for (int i = 0; i < t.kids.length; i++) {
                r.kids[i] = put(t.kids[i], name, hypothesis, seed);
            }
            return r;
        }

        static T contract(T t, int kind) {
            T in = t.kids[0];
            switch (kind) {
                case 1: return put(in.kids[0], in.binders[0], -1, t.kids[1]);
                case 2: return in.kids[0];
                case 3: return in.kids[1];
                case 4: return put(t.kids[1], t.binders[0], -1, in.kids[0]);
                case 5: return put(t.kids[2], t.binders[1], -1, in.kids[0]);
                case 6: return node("case", null, in.binders, in.kids[0], around(t, in.kids[1]), around(t, in.kids[2]));
                default: return node("abort", t.proves, new Binder[0], in.kids[0]);
            }
        }

        static T around(T outer, T arm) {
            T r = outer.fresh();
            r.kids[0] = arm;
            return r;
        }

        static int done;

        /** The TERM behind one STEP, whose KIND is done. */
        static T stepped(T t) {
            done = kind(t);
            if (done != 0) {
                return contract(t, done);
            }
            for (int i = 0; i < t.kids.length; i++) {
                T kid = stepped(t.kids[i]);
                if (done != 0) {
                    T r = new T();
                    r.op = t.op;
                    r.told = t.told;
                    r.binders = t.binders;
                    r.kids = t.kids.clone();
                    r.kids[i] = kid;
                    return r;
                }
            }
            return t;
        }

        /** NORMAL, or null; the KINDS of STEPS go into the list. */
        T normalOf(T start, List<Integer> kinds) {
            T t = start.fresh();
            for (int i = 0; i <= 60; i++) {
                ask(t);
                T next = stepped(t);
                if (done == 0) {
                    return t;
                }
                if (i == 60 || next.nodes() > 200) {
                    return null;
                }
                kinds.add(done);
                t = next.fresh();
            }
            return null;
        }

        int step(int slot) {
            if (noSlot(slot)) {
                return -2;
            }
            if (slots[slot] == null) {
                return -5;
            }
            ask(slots[slot]);
            T next = stepped(slots[slot]);
            int kind = done;
            if (kind == 0) {
                return 0;
            }
            if (next.nodes() > 200) {
                return -4;
            }
            slots[slot] = next.fresh();
            return kind;
        }

        int normal(int slot) {
            if (noSlot(slot)) {
                return -2;
            }
            if (slots[slot] == null) {
                return -5;
            }
            List<Integer> kinds = new ArrayList<>();
            T t = normalOf(slots[slot], kinds);
            if (t == null) {
                return -4;
            }
            slots[slot] = t;
            trace = kinds;
            return kinds.size();
        }

        int trace(int k) {
            return k < 0 || k >= trace.size() ? -2 : trace.get(k);
        }

        int cut(int a, int k, int b, int c) {
            if (noSlot(a) || noSlot(b) || noSlot(c) || k < 0 || k >= given.size()) {
                return -2;
            }
            if (slots[a] == null || slots[b] == null || !ask(slots[b]).same(given.get(k))) {
                return -5;
            }
            T t = put(slots[a], null, k, slots[b]).fresh();
            if (t.nodes() > 200) {
                return -4;
            }
            slots[c] = t;
            return t.nodes();
        }

        // ---- what is told

        int fault(int what) {
            return what == 0 ? flaw : what == 1 ? place : -1;
        }

        int drop(int slot) {
            if (noSlot(slot)) {
                return -2;
            }
            int had = slots[slot] == null ? 0 : slots[slot].nodes();
            slots[slot] = null;
            return had;
        }

        int count(int what) {
            switch (what) {
                case 0: return given.size();
                case 1:
                    int bits = 0;
                    for (int i = 0; i < 4; i++) {
                        bits += slots[i] == null ? 0 : 1 << i;
                    }
                    return bits;
                case 2: return tape.size();
                case 3: return trace.size();
                default: return -1;
            }
        }

        int hypothesis(int k, int what, int i) {
            if (k < 0 || k >= given.size() || what < 0 || what > 1) {
                return -2;
            }
            return i < 0 ? -3 : byteOf(what == 0 ? names.get(k) : given.get(k).text, i);
        }

        int goalByte(int i) {
            return i < 0 ? -3 : byteOf(goal.text, i);
        }

        int spell(int slot, int what, int i) {
            if (noSlot(slot) || what < 0 || what > 2) {
                return -2;
            }
            if (i < 0) {
                return -3;
            }
            return slots[slot] == null ? -5 : byteOf(text(slot, what), i);
        }

        int length(int slot, int what) {
            if (noSlot(slot) || what < 0 || what > 2) {
                return -2;
            }
            return slots[slot] == null ? -5 : text(slot, what).length();
        }

        static void all(T t, List<T> into) {
            into.add(t);
            for (T kid : t.kids) {
                all(kid, into);
            }
        }

        int size(int slot, int what) {
            if (noSlot(slot) || what < 0 || what > 6) {
                return -2;
            }
            T t = slots[slot];
            if (t == null) {
                return -5;
            }
            ask(t);
            List<T> nodes = new ArrayList<>();
            all(t, nodes);
            int bits = 0;
            int redexes = 0;
            Set<String> proven = new HashSet<>();
            for (T one : nodes) {
                proven.add(one.proves.text);
                redexes += kind(one) == 0 ? 0 : 1;
                if (one.op.equals("name") && one.binder == null) {
                    bits |= 1 << one.hypothesis;
                }
            }
            Set<String> parts = new HashSet<>();
            t.proves.parts(parts);
            for (F f : given) {
                f.parts(parts);
            }
            switch (what) {
                case 0: return nodes.size();
                case 1: return t.height();
                case 2: return bits;
                case 3: return proven.size();
                case 4:
                    proven.removeAll(parts);
                    return proven.size();
                case 5: return t.proves.same(goal) ? 1 : 0;
                default: return redexes == 0 ? 1 : 0;
            }
        }

        int redexes(int slot, int kind) {
            if (noSlot(slot) || kind < 0 || kind > 7) {
                return -2;
            }
            if (slots[slot] == null) {
                return -5;
            }
            List<T> nodes = new ArrayList<>();
            all(slots[slot], nodes);
            int sum = 0;
            for (T one : nodes) {
                int here = kind(one);
                sum += here != 0 && (kind == 0 || kind == here) ? 1 : 0;
            }
            return sum;
        }

        // ---- lines

        record Line(int rule, F formula, int deep, List<Integer> from) { }

        static final List<String> OPS = List.of("", "", "fun", "app", "pair", "fst", "snd", "inl", "inr", "case", "abort");

        int number(T t, int deep, List<Line> lines, Map<Binder, Integer> taken) {
            if (t.op.equals("name")) {
                return t.binder == null ? t.hypothesis : taken.get(t.binder);
            }
            List<Integer> from = new ArrayList<>();
            for (int i = 0; i < t.kids.length; i++) {
                Binder of = t.binderOf(i);
                int inner = deep;
                if (of != null) {
                    inner++;
                    taken.put(of, lines.size());
                    if (t.op.equals("fun")) {
                        from.add(lines.size());
                    }
                    lines.add(new Line(1, of.type, inner, List.of()));
                }
                from.add(number(t.kids[i], inner, lines, taken));
            }
            lines.add(new Line(OPS.indexOf(t.op), t.proves, deep, from));
            return lines.size() - 1;
        }

        List<Line> linesOf(int slot) {
            ask(slots[slot]);
            List<Line> lines = new ArrayList<>();
            for (F f : given) {
                lines.add(new Line(0, f, 0, List.of()));
            }
            number(slots[slot], 0, lines, new HashMap<>());
            return lines;
        }

        int lines(int slot) {
            if (noSlot(slot)) {
                return -2;
            }
            return slots[slot] == null ? -5 : linesOf(slot).size();
        }

        int line(int slot, int k, int what) {
            if (noSlot(slot)) {
                return -2;
            }
            if (slots[slot] == null) {
                return -5;
            }
            List<Line> lines = linesOf(slot);
            if (k < 0 || k >= lines.size() || what < 0 || what > 4) {
                return -2;
            }
            Line line = lines.get(k);
            if (what == 0) {
                return line.rule;
            }
            if (what == 4) {
                return line.deep;
            }
            return what <= line.from.size() ? line.from.get(what - 1) : -1;
        }

        int lineByte(int slot, int k, int i) {
            if (noSlot(slot)) {
                return -2;
            }
            if (slots[slot] == null) {
                return -5;
            }
            List<Line> lines = linesOf(slot);
            if (k < 0 || k >= lines.size()) {
                return -2;
            }
            return i < 0 ? -3 : byteOf(lines.get(k).formula.text, i);
        }

        // ---- two proofs, sides, what can be

        int equal(int a, int b) {
            if (noSlot(a) || noSlot(b)) {
                return -2;
            }
            if (slots[a] == null || slots[b] == null) {
                return -5;
            }
            return spelt(slots[a]).equals(spelt(slots[b])) ? 1 : 0;
        }

        int alike(int a, int b) {
            if (noSlot(a) || noSlot(b)) {
                return -2;
            }
            if (slots[a] == null || slots[b] == null) {
                return -5;
            }
            T x = normalOf(slots[a], new ArrayList<>());
            T y = normalOf(slots[b], new ArrayList<>());
            if (x == null || y == null) {
                return -4;
            }
            return spelt(x).equals(spelt(y)) ? 1 : 0;
        }

        int side(int slot) {
            if (noSlot(slot)) {
                return -2;
            }
            if (slots[slot] == null || !ask(slots[slot]).is("or")) {
                return -5;
            }
            T t = normalOf(slots[slot], new ArrayList<>());
            if (t == null) {
                return -4;
            }
            return t.op.equals("inl") ? 0 : t.op.equals("inr") ? 1 : -1;
        }

        int against() {
            for (int set = 0; set < 256; set++) {
                boolean all = true;
                for (F f : given) {
                    all &= f.holds(set);
                }
                if (all && !goal.holds(set)) {
                    return set;
                }
            }
            return -1;
        }

        int classical() {
            return against() == -1 ? 1 : 0;
        }
    }

    // ---- random texts

    static final String[] NAMES = {"a", "b", "c", "p", "q", "h", "x", "xa", "xb", "w", "no", "name", "zz", "fune"};

    static final class Maker {
        final Random random;
        final List<String> names;
        final List<F> given;
        int fuel;

        Maker(Random random, List<String> names, List<F> given) {
            this.random = random;
            this.names = names;
            this.given = given;
        }

        F formula(int size) {
            int pick = random.nextInt(size <= 1 ? 5 : 9);
            if (pick < 4) {
                return new F("pqr".substring(pick % 3, pick % 3 + 1), null, null);
            }
            if (pick == 4) {
                return FALSE;
            }
            String word = new String[] {"imp", "and", "or", "imp"}[pick - 5];
            return new F(word, formula(size / 2), formula(size / 2));
        }

        String told(F f) {
            if (f.left == null) {
                return f.word;
            }
            if (f.is("imp") && f.right.is("no") && random.nextBoolean()) {
                return "not " + told(f.left);
            }
            return f.word + " " + told(f.left) + " " + told(f.right);
        }

        String freshName() {
            String name = NAMES[random.nextInt(NAMES.length)];
            return name.equals("no") ? "n" : name;
        }

        static List<String> with(List<String> list, String name) {
            List<String> longer = new ArrayList<>(list);
            longer.add(name);
            return longer;
        }

        static List<F> with(List<F> list, F f) {
            List<F> longer = new ArrayList<>(list);
            longer.add(f);
            return longer;
        }

        /** A TERM that PROVES f, as a text, or null. */
        String prove(F f, List<String> scope, List<F> types, int deep) {
            if (--fuel < 0 || deep > 12) {
                return known(f, scope, types);
            }
            for (int tries = 0; tries < 3; tries++) {
                String text = tryOne(f, scope, types, deep + 1, random.nextInt(12));
                if (text != null) {
                    return text;
                }
            }
            return known(f, scope, types);
        }

        String known(F f, List<String> scope, List<F> types) {
            List<String> fit = new ArrayList<>();
            for (int i = 0; i < scope.size(); i++) {
                if (types.get(i).same(f) && scope.lastIndexOf(scope.get(i)) == i) {
                    fit.add(scope.get(i));
                }
            }
            return fit.isEmpty() ? null : fit.get(random.nextInt(fit.size()));
        }

        String tryOne(F f, List<String> scope, List<F> types, int deep, int way) {
            String n = freshName();
            switch (way) {
                case 0: case 1: case 2:
                    return intro(f, scope, types, deep, n);
                case 3:
                    F a = random.nextBoolean() && !types.isEmpty() ? types.get(random.nextInt(types.size())) : formula(4);
                    String arg = prove(a, scope, types, deep);
                    String body = arg == null ? null : prove(f, with(scope, n), with(types, a), deep);
                    return body == null ? null : "app fun " + n + " " + told(a) + " " + body + " " + arg;
                case 4:
                    String kept = prove(f, scope, types, deep);
                    String other = kept == null ? null : prove(formula(3), scope, types, deep);
                    if (other == null) {
                        return null;
                    }
                    return random.nextBoolean() ? "fst pair " + kept + " " + other : "snd pair " + other + " " + kept;
                case 5: case 6:
                    return cases(f, scope, types, deep, n);
                case 7:
                    String absurd = prove(FALSE, scope, types, deep);
                    return absurd == null ? null : "abort " + told(f) + " " + absurd;
                case 8: case 9:
                    return eliminate(f, scope, types, deep);
                default:
                    return known(f, scope, types);
            }
        }

        String intro(F f, List<String> scope, List<F> types, int deep, String n) {
            if (f.is("imp")) {
                String body = prove(f.right, with(scope, n), with(types, f.left), deep);
                return body == null ? null : "fun " + n + " " + told(f.left) + " " + body;
            }
            if (f.is("and")) {
                String l = prove(f.left, scope, types, deep);
                String r = l == null ? null : prove(f.right, scope, types, deep);
                return r == null ? null : "pair " + l + " " + r;
            }
            if (f.is("or")) {
                boolean left = random.nextBoolean();
                String in = prove(left ? f.left : f.right, scope, types, deep);
                return in == null ? null : left ? "inl " + told(f.right) + " " + in : "inr " + told(f.left) + " " + in;
            }
            return null;
        }

        String cases(F f, List<String> scope, List<F> types, int deep, String n) {
            F either = null;
            for (F t : types) {
                if (t.is("or") && (either == null || random.nextBoolean())) {
                    either = t;
                }
            }
            if (either == null || random.nextInt(3) == 0) {
                either = new F("or", formula(3), formula(3));
            }
            String first = prove(either, scope, types, deep);
            String m = freshName();
            String l = first == null ? null : prove(f, with(scope, n), with(types, either.left), deep);
            String r = l == null ? null : prove(f, with(scope, m), with(types, either.right), deep);
            return r == null ? null : "case " + first + " " + n + " " + l + " " + m + " " + r;
        }

        String eliminate(F f, List<String> scope, List<F> types, int deep) {
            if (types.isEmpty()) {
                return null;
            }
            F t = types.get(random.nextInt(types.size()));
            if (t.is("imp") && t.right.same(f)) {
                String fun = prove(t, scope, types, deep);
                String arg = fun == null ? null : prove(t.left, scope, types, deep);
                return arg == null ? null : "app " + fun + " " + arg;
            }
            if (t.is("and") && t.left.same(f)) {
                String both = prove(t, scope, types, deep);
                return both == null ? null : "fst " + both;
            }
            if (t.is("and") && t.right.same(f)) {
                String both = prove(t, scope, types, deep);
                return both == null ? null : "snd " + both;
            }
            return null;
        }

        static final String SOUP = "p q r no not imp and or fun app pair fst snd inl inr case abort a b x xa ; zz abcde P";

        String soup(int words) {
            String[] all = SOUP.split(" ");
            StringBuilder b = new StringBuilder();
            for (int i = 0; i < words; i++) {
                b.append(all[random.nextInt(all.length)]).append(random.nextInt(9) == 0 ? "  " : " ");
            }
            return b.toString();
        }

        static final String[][] KIN = {
            {"p", "q", "r", "no"}, {"imp", "and", "or"}, {"fst", "snd"}, {"inl", "inr", "abort"}, {"app", "pair"}};

        /** The text with some words in place of which others might stand: mostly fit to be read, seldom to be proved. */
        String misled(String text) {
            String[] words = text.split(" ");
            for (int tries = 0; tries < 4; tries++) {
                int at = random.nextInt(words.length);
                for (String[] kin : KIN) {
                    if (List.of(kin).contains(words[at]) && !names.contains(words[at])) {
                        words[at] = kin[random.nextInt(kin.length)];
                    }
                }
                if (names.contains(words[at])) {
                    words[at] = names.get(random.nextInt(names.size()));
                }
            }
            return String.join(" ", words);
        }

        /** The text with one word dropped, doubled, changed, or one byte changed. */
        String spoilt(String text) {
            String[] words = text.split(" ");
            int at = random.nextInt(words.length);
            String[] all = SOUP.split(" ");
            switch (random.nextInt(5)) {
                case 0: words[at] = ""; break;
                case 1: words[at] = words[at] + " " + words[at]; break;
                case 2: case 3: words[at] = all[random.nextInt(all.length)]; break;
                default:
                    StringBuilder b = new StringBuilder(text);
                    b.setCharAt(random.nextInt(b.length()), (char) random.nextInt(256));
                    return b.toString();
            }
            return String.join(" ", words);
        }
    }

    // ---- runs

    private static ProofTrim real;
    private static Model model;
    private static StringBuilder log;

    private static int due(String call, int got, int want) {
        calls++;
        String counted = call.replaceAll("[^a-z].*", "") + " " + (want < 0 || call.matches("(step|trace|fault|alike|side|equal).*") ? want : "ok");
        seen.merge(counted, 1, Integer::sum);
        log.append(call).append(" -> ").append(want).append('\n');
        if (got != want) {
            wrong++;
            if (wrong < 5) {
                System.out.println(log);
            }
            System.out.println(call + " answered " + got + ", due is " + want);
        }
        return got;
    }

    /** Feeds a text: how many calls that took. */
    private static void feed(String text) {
        for (int i = 0; i < text.length(); i += 20) {
            int[] v = new int[5];
            for (int k = 0; k < 20; k++) {
                int sign = i + k < text.length() ? text.charAt(i + k) & 255 : 0;
                v[k / 4] = v[k / 4] << 8 | sign;
            }
            due("feed '" + text.substring(i, Math.min(text.length(), i + 20)) + "'",
                real.feed(v[0], v[1], v[2], v[3], v[4]), model.feed(v[0], v[1], v[2], v[3], v[4]));
        }
    }

    private static void tellFault() {
        for (int what = -1; what <= 2; what++) {
            due("fault(" + what + ")", real.fault(what), model.fault(what));
        }
    }

    private static void tellHypotheses(Maker maker, Random random) {
        StringBuilder b = new StringBuilder();
        List<String> used = new ArrayList<>();
        for (int k = random.nextInt(random.nextInt(20) == 0 ? 9 : 7); k > 0; k--) {
            String name = maker.freshName();
            if (used.contains(name) && random.nextInt(20) != 0 || name.matches("x.+") && random.nextInt(20) != 0) {
                name = "k" + (char) ('a' + k);
            }
            used.add(name);
            b.append(name).append(' ').append(maker.told(maker.formula(8))).append(random.nextBoolean() ? ";" : " ; ");
        }
        String text = b.toString();
        if (random.nextInt(8) == 0 && !text.isEmpty()) {
            text = maker.spoilt(text);
        }
        if (text.length() > 600) {
            return;
        }
        feed(text);
        due("hypotheses(" + text.length() + ")", real.hypotheses(text.length()), model.hypotheses(text.length()));
        tellFault();
    }

    private static void tellGoal(Maker maker, Random random) {
        String text = maker.told(maker.formula(12));
        if (random.nextInt(8) == 0) {
            text = maker.spoilt(text);
        }
        feed(text);
        due("goal(" + text.length() + ")", real.goal(text.length()), model.goal(text.length()));
        tellFault();
    }

    private static void tellProof(Maker maker, Random random, int slot) {
        String text = null;
        for (int tries = 0; tries < 20 && text == null; tries++) {
            maker.fuel = 10 + random.nextInt(random.nextInt(4) == 0 ? 200 : 60);
            F f = random.nextInt(3) == 0 ? model.goal : maker.formula(6);
            if (!model.given.isEmpty() && random.nextInt(3) == 0) {
                f = model.given.get(random.nextInt(model.given.size()));
            }
            text = maker.prove(f, model.names, model.given, 0);
            if (text != null && text.length() > 600) {
                text = null;
            }
            if (text != null && text.indexOf(' ') < 0 && random.nextInt(3) != 0) {
                text = null;
            }
        }
        if (text == null || random.nextInt(25) == 0) {
            text = maker.soup(1 + random.nextInt(12));
        }
        if (random.nextInt(8) == 0) {
            text = maker.spoilt(text);
        } else if (random.nextInt(6) == 0) {
            text = maker.misled(text);
        }
        if (text.length() > 600) {
            return;
        }
        feed(text);
        int n = random.nextInt(20) == 0 ? random.nextInt(text.length() + 3) : text.length();
        due("proof(" + slot + ", " + n + ")", real.proof(slot, n), model.proof(slot, n));
        tellFault();
    }

    private static void lookAt(Random random, int slot) {
        for (int what = -1; what <= 7; what++) {
            due("size(" + slot + ", " + what + ")", real.size(slot, what), model.size(slot, what));
        }
        for (int kind = -1; kind <= 8; kind++) {
            due("redexes(" + slot + ", " + kind + ")", real.redexes(slot, kind), model.redexes(slot, kind));
        }
        for (int what = -1; what <= 3; what++) {
            int bytes = due("length(" + slot + ", " + what + ")", real.length(slot, what), model.length(slot, what));
            for (int i = 0; i < bytes; i++) {
                due("spell(" + slot + ", " + what + ", " + i + ")", real.spell(slot, what, i), model.text(slot, what).charAt(i));
            }
            for (int i : new int[] {-1, bytes, bytes + 1, Integer.MAX_VALUE}) {
                due("spell(" + slot + ", " + what + ", " + i + ")", real.spell(slot, what, i), model.spell(slot, what, i));
            }
        }
        due("side(" + slot + ")", real.side(slot), model.side(slot));
        int lines = due("lines(" + slot + ")", real.lines(slot), model.lines(slot));
        for (int k = -1; k <= Math.max(lines, 0); k++) {
            for (int what = -1; what <= 5; what++) {
                due("line(" + slot + ", " + k + ", " + what + ")", real.line(slot, k, what), model.line(slot, k, what));
            }
            for (int i : new int[] {-1, 0, 1, 4, 5, random.nextInt(40)}) {
                due("lineByte(" + slot + ", " + k + ", " + i + ")", real.lineByte(slot, k, i), model.lineByte(slot, k, i));
            }
        }
    }

    private static void lookAtAll() {
        for (int what = -1; what <= 4; what++) {
            due("count(" + what + ")", real.count(what), model.count(what));
        }
        for (int k = -1; k <= model.given.size(); k++) {
            for (int what = -1; what <= 2; what++) {
                for (int i = -1; i < 30; i++) {
                    due("hypothesis(" + k + ", " + what + ", " + i + ")", real.hypothesis(k, what, i), model.hypothesis(k, what, i));
                }
            }
        }
        for (int i = -1; i <= model.goal.text.length(); i++) {
            due("goalByte(" + i + ")", real.goalByte(i), model.goalByte(i));
        }
        for (int k = -1; k <= model.trace.size(); k++) {
            due("trace(" + k + ")", real.trace(k), model.trace(k));
        }
        due("classical()", real.classical(), model.classical());
        due("against()", real.against(), model.against());
    }

    private static void run(long seed) {
        Random random = new Random(seed);
        real = new ProofTrim();
        model = new Model();
        log = new StringBuilder("seed " + seed + "\n");
        for (int i = 0; i < 40; i++) {
            Maker maker = new Maker(random, model.names, model.given);
            int slot = random.nextInt(20) == 0 ? random.nextInt(7) - 2 : random.nextInt(4);
            int other = random.nextInt(20) == 0 ? random.nextInt(7) - 2 : random.nextInt(4);
            int third = random.nextInt(20) == 0 ? random.nextInt(7) - 2 : random.nextInt(4);
            switch (i == 0 ? 0 : random.nextInt(16)) {
                case 0:
                    if (i == 0 || random.nextInt(5) == 0) {
                        tellHypotheses(maker, random);
                    }
                    break;
                case 1:
                    tellGoal(maker, random);
                    break;
                case 2: case 3: case 4: case 5:
                    tellProof(maker, random, slot);
                    break;
                case 6: case 7: case 8:
                    due("step(" + slot + ")", real.step(slot), model.step(slot));
                    break;
                case 9:
                    due("normal(" + slot + ")", real.normal(slot), model.normal(slot));
                    break;
                case 10: case 11: case 12:
                    for (int h = -1; h <= 6; h++) {
                        due("cut(" + slot + ", " + h + ", " + other + ", " + third + ")",
                            real.cut(slot, h, other, third), model.cut(slot, h, other, third));
                    }
                    break;
                case 13:
                    due("equal(" + slot + ", " + other + ")", real.equal(slot, other), model.equal(slot, other));
                    due("alike(" + slot + ", " + other + ")", real.alike(slot, other), model.alike(slot, other));
                    break;
                case 14:
                    if (random.nextInt(4) == 0) {
                        due("drop(" + slot + ")", real.drop(slot), model.drop(slot));
                    }
                    break;
                default:
                    lookAt(random, slot);
            }
        }
        lookAtAll();
        for (int slot = -1; slot <= 4; slot++) {
            lookAt(random, slot);
            for (int other = -1; other <= 4; other++) {
                due("equal(" + slot + ", " + other + ")", real.equal(slot, other), model.equal(slot, other));
                due("alike(" + slot + ", " + other + ")", real.alike(slot, other), model.alike(slot, other));
            }
        }
    }

    public static void main(String[] args) {
        long from = args.length > 0 ? Long.parseLong(args[0]) : 0;
        long many = args.length > 1 ? Long.parseLong(args[1]) : 400;
        for (long seed = from; seed < from + many; seed++) {
            run(seed);
        }
        if (args.length > 2) {
            System.out.println(seen);
        }
        System.out.println(calls + " calls, " + wrong + " answers are not as due");
        if (wrong != 0) {
            System.exit(1);
        }
    }
}
