import java.io.IOException;
import java.lang.reflect.Array;
import java.lang.reflect.Constructor;
import java.lang.reflect.Field;
import java.lang.reflect.Method;
import java.lang.reflect.Modifier;
import java.nio.file.Files;
import java.nio.file.Path;
import java.util.HashSet;
import java.util.IdentityHashMap;
import java.util.List;
import java.util.Map;
import java.util.Set;
import java.util.TreeSet;
import java.util.regex.Matcher;
import java.util.regex.Pattern;

/** What can be seen of the rules of LANGUAGE.md in the program's text and classes. Runs from the project's root. */
public final class RulesTest {
    private static int wrong = 0;

    private static void blame(String what) {
        wrong++;
        System.out.println(what);
    }

    private static final Set<String> FACE = Set.of("feed", "hypotheses", "goal", "proof", "fault", "drop", "count", "hypothesis",
        "goalByte", "spell", "length", "size", "redexes", "step", "normal", "trace", "cut", "lines", "line", "lineByte", "equal",
        "alike", "side", "provable", "bySide", "classical", "against");

    private static void face() {
        Set<String> seen = new HashSet<>();
        for (Method m : ProofTrim.class.getDeclaredMethods()) {
            boolean open = Modifier.isPublic(m.getModifiers());
            if (open && !FACE.contains(m.getName()) || !open && FACE.contains(m.getName())) {
                blame("rule 1: method " + m.getName());
            }
            if (!open && !Modifier.isPrivate(m.getModifiers())) {
                blame("rule 1: method " + m.getName() + " is neither public nor private");
            }
            if (open) {
                seen.add(m.getName());
            }
        }
        if (!seen.equals(FACE)) {
            blame("rule 1: the face is " + new TreeSet<>(seen));
        }
        for (Field f : ProofTrim.class.getDeclaredFields()) {
            if (!Modifier.isPrivate(f.getModifiers()) && !f.getName().equals("NONE")) {
                blame("rule 1: field " + f.getName());
            }
        }
        for (Constructor<?> c : ProofTrim.class.getDeclaredConstructors()) {
            if (!Modifier.isPublic(c.getModifiers()) || c.getParameterCount() != 0) {
                blame("rule 1: constructor " + c);
            }
        }
    }

    private static void classes() {
        Class<?>[] inner = ProofTrim.class.getDeclaredClasses();
        if (inner.length + 1 > 12) {
            blame("rule 11: " + (inner.length + 1) + " classes");
        }
        checkClass(ProofTrim.class);
        for (Class<?> c : inner) {
            if (!Modifier.isStatic(c.getModifiers()) || Modifier.isPublic(c.getModifiers()) || Modifier.isProtected(c.getModifiers())) {
                blame("rule 1: class " + c.getName());
            }
            checkClass(c);
        }
    }

    private static void checkClass(Class<?> c) {
        int fields = 0;
        for (Field f : c.getDeclaredFields()) {
            boolean fixed = Modifier.isStatic(f.getModifiers());
            fields += fixed ? 0 : 1;
            if (fixed && !Modifier.isFinal(f.getModifiers())) {
                blame("rule 5: " + c.getName() + "." + f.getName());
            }
        }
        if (fields > 20) {
            blame("rule 11: " + c.getName() + " has " + fields + " fields");
        }
        for (Method m : c.getDeclaredMethods()) {
            if (m.getParameterCount() > 7) {
                blame("rule 11: " + c.getName() + "." + m.getName());
            }
            if (c != ProofTrim.class && FACE.contains(m.getName())) {
                blame("rule 1: " + c.getName() + "." + m.getName() + " bears the name of a public method");
            }
        }
    }

    private static void text() throws IOException {
        List<String> lines = Files.readAllLines(Path.of("src/main/java/ProofTrim.java"));
        String banned = "\\b(Integer\\.[A-Z]\\w*|Long\\.[A-Z]\\w*|\\w+Exact|throw|throws|try|catch|finally|synchronized|assert|import|package|protected|volatile|native|Object|var)\\b|->|::";
        Pattern bannedWord = Pattern.compile(banned);
        Pattern method = Pattern.compile("^( {4}| {8})(public |private )?(static )?[A-Za-z\\[\\]]+ ?[A-Za-z]*\\(.*\\) \\{$");
        int began = -1;
        String end = "";
        for (int i = 0; i < lines.size(); i++) {
            String line = lines.get(i);
            String code = line.replaceAll("\"[^\"]*\"", "\"\"").replaceAll("//.*", "").replaceAll("^\\s*/?\\*.*", "");
            Matcher hit = bannedWord.matcher(code);
            if (hit.find()) {
                blame("rule 2, 4 or 6: line " + (i + 1) + ": " + hit.group());
            }
            if (code.matches(".*\"\" *\\+.*|.*\\+ *\"\".*")) {
                blame("rule 10: line " + (i + 1) + " joins texts by +");
            }
            if (!line.chars().allMatch(sign -> sign >= 32 && sign < 127)) {
                blame("rule 4: line " + (i + 1) + " has a sign that is not plain");
            }
            if (method.matcher(line).matches()) {
                began = i;
                end = line.substring(0, line.length() - line.stripLeading().length()) + "}";
            } else if (began >= 0 && line.equals(end)) {
                if (i - began > 60) {
                    blame("rule 11: the method at line " + (began + 1) + " has " + (i - began) + " lines");
                }
                began = -1;
            }
        }
    }

    private static int objects = 0;
    private static int elements = 0;

    /** Counts an object or array and all that it holds, each once. */
    private static void weigh(Object whole, Map<Object, Boolean> seen) throws IllegalAccessException {
        if (whole == null || seen.put(whole, true) != null) {
            return;
        }
        objects++;
        Class<?> kind = whole.getClass();
        if (kind.isArray()) {
            elements += Array.getLength(whole);
            for (int i = 0; !kind.getComponentType().isPrimitive() && i < Array.getLength(whole); i++) {
                weigh(Array.get(whole, i), seen);
            }
            return;
        }
        for (Field f : kind.getDeclaredFields()) {
            if (!Modifier.isStatic(f.getModifiers())) {
                elements++;
                f.setAccessible(true);
                if (!f.getType().isPrimitive()) {
                    weigh(f.get(whole), seen);
                }
            }
        }
    }

    /** All calls of a run live in one room, so an object must be small. */
    private static void room() throws IllegalAccessException {
        weigh(new ProofTrim(), new IdentityHashMap<>());
        System.out.println("a new object: " + objects + " objects and arrays, " + elements + " fields and elements");
        if (objects > 100 || elements > 70000) {
            blame("the room: an object is larger than README.md says");
        }
    }

    /** A class, or a constructor, is where rooms are made: nowhere else may 'new' stand. */
    private static void makers() throws IOException {
        List<String> lines = Files.readAllLines(Path.of("src/main/java/ProofTrim.java"));
        Pattern maker = Pattern.compile("^( {4}| {8})(public )?[A-Z][A-Za-z]*\\([^)]*\\) \\{$");
        Pattern field = Pattern.compile("^( {4}| {8})private (static )?(final )?[A-Za-z\\[\\]]+ [A-Za-z]+ = new .*;$");
        String end = "";
        for (int i = 0; i < lines.size(); i++) {
            String line = lines.get(i);
            if (maker.matcher(line).matches()) {
                end = line.substring(0, line.length() - line.stripLeading().length()) + "}";
            } else if (line.equals(end)) {
                end = "";
            } else if (end.isEmpty() && line.matches(".*\\bnew\\b.*") && !line.matches("\\s*(//|\\*|/\\*).*") && !field.matcher(line).matches()) {
                blame("rule 12: line " + (i + 1) + " makes an object");
            }
        }
    }

    public static void main(String[] args) throws IOException, IllegalAccessException {
        face();
        classes();
        text();
        makers();
        room();
        System.out.println(wrong == 0 ? "the rules that can be seen are kept" : wrong + " rules are broken");
        if (wrong != 0) {
            System.exit(1);
        }
    }
}
