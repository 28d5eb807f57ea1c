import java.util.Random;

/**
 * No call may throw or fail to end, for any arguments in any state: wild arguments, texts of random
 * words, and far more calls on one object than are promised, so that its rooms run full.
 */
public final class RoughTest {
    private static final String[] WORDS = {"p", "q", "r", "w", "no", "not", "imp", "and", "or", "fun", "app", "pair", "fst", "snd",
        "inl", "inr", "case", "abort", "a", "b", "h", "x", "xa", ";", "abcde", "+"};
    private static final int[] WILD = {Integer.MIN_VALUE, Integer.MAX_VALUE, -1000, -31, -7, -6, -2, -1, 4, 5, 6, 7, 8, 26, 199, 200, 201, 600, 601, 5200};

    private static int number(Random random) {
        int pick = random.nextInt(8);
        return pick == 0 ? WILD[random.nextInt(WILD.length)] : pick == 1 ? random.nextInt() : random.nextInt(pick == 2 ? 60 : 4);
    }

    private static int feed(ProofTrim x, String text) {
        int on = x.count(2);
        for (int i = 0; i < text.length(); i += 20) {
            int[] v = new int[5];
            for (int k = 0; k < 20; k++) {
                v[k / 4] = v[k / 4] << 8 | (i + k < text.length() ? text.charAt(i + k) : 32);
            }
            on = x.feed(v[0], v[1], v[2], v[3], v[4]);
        }
        return on;
    }

    /** Like a FORMULA with ever new ones in it, so that the room of FORMULAS fills. */
    private static String formula(Random random, int words) {
        if (words <= 1) {
            return WORDS[random.nextInt(5)];
        }
        String op = new String[] {"imp", "and", "or"}[random.nextInt(3)];
        int left = 1 + random.nextInt(words - 1);
        return op + " " + formula(random, left) + " " + formula(random, Math.max(1, words - 1 - left));
    }

    private static String text(Random random) {
        switch (random.nextInt(7)) {
            case 0: return formula(random, 14);
            case 1: return "h " + formula(random, 12) + ";a " + formula(random, 10) + ";";
            case 2: return "fun a " + formula(random, 13) + " pair a inl " + formula(random, 12) + " a";
            case 3: return "app fun a p pair a a abort p abort no h";
            case 4: return "h no;a p;b or p q;";
            case 5: return "case b a inl q a p inr p p";
            default:
                StringBuilder b = new StringBuilder();
                for (int i = random.nextInt(20); i >= 0; i--) {
                    b.append(WORDS[random.nextInt(WORDS.length)]).append(' ');
                }
                return b.toString();
        }
    }

    private static int call(ProofTrim x, Random random) {
        int a = number(random);
        int b = number(random);
        int c = number(random);
        int d = number(random);
        switch (random.nextInt(31)) {
            case 0: return x.feed(a, b, c, d, number(random));
            case 1: return x.hypotheses(a);
            case 2: return x.goal(a);
            case 3: return x.proof(a, b);
            case 4: return x.fault(a);
            case 5: return x.drop(a);
            case 6: return x.count(a);
            case 7: return x.hypothesis(a, b, c);
            case 8: return x.goalByte(a);
            case 9: return x.spell(a, b, c);
            case 10: return x.length(a, b);
            case 11: return x.size(a, b);
            case 12: return x.redexes(a, b);
            case 13: return x.step(a);
            case 14: return x.normal(a);
            case 15: return x.trace(a);
            case 16: return x.cut(a, b, c, d);
            case 17: return x.lines(a);
            case 18: return x.line(a, b, c);
            case 19: return x.lineByte(a, b, c);
            case 20: return x.equal(a, b);
            case 21: return x.alike(a, b);
            case 22: return x.side(a);
            case 23: return x.provable();
            case 24: return x.bySide(a);
            case 25: return x.classical();
            case 26: return x.against();
            case 27: return x.hypotheses(feed(x, text(random)));
            case 28: return x.goal(feed(x, text(random)));
            default: return x.proof(random.nextInt(4), feed(x, text(random)));
        }
    }

    public static void main(String[] args) {
        int codes = 0;
        try {
            for (int seed = 0; seed < 20; seed++) {
                Random random = new Random(seed);
                ProofTrim x = new ProofTrim();
                for (int i = 0; i < 20000; i++) {
                    int answer = call(x, random);
                    if (answer < -35) {
                        codes++;
                        System.out.println("seed " + seed + ": a call answered " + answer);
                    }
                }
            }
        } catch (RuntimeException thrown) {
            thrown.printStackTrace(System.out);
            System.exit(1);
        }
        System.out.println("nothing was thrown");
        if (codes != 0) {
            System.exit(1);
        }
    }
}
