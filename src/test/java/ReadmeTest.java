import java.io.IOException;
import java.net.URL;
import java.net.URLClassLoader;
import java.nio.file.Files;
import java.nio.file.Path;
import java.util.ArrayList;
import java.util.Comparator;
import java.util.HashSet;
import java.util.List;
import java.util.Set;
import java.util.regex.Matcher;
import java.util.regex.Pattern;
import java.util.stream.Stream;
import javax.tools.ToolProvider;

/**
 * The Java that README.md shows is compiled and run: each call must answer the number that stands
 * behind it, and each call of the face must be named on the page. Runs from the project's root.
 */
public final class ReadmeTest {
    private static final Pattern ANSWERED = Pattern.compile("\\s*((?:x\\.|tell\\().*);\\s*//\\s*(-?\\d+).*");

    private static List<String> blocks(List<String> page) {
        List<String> found = new ArrayList<>();
        StringBuilder block = null;
        for (String line : page) {
            if (line.equals("```java")) {
                block = new StringBuilder();
            } else if (line.equals("```") && block != null) {
                found.add(block.toString());
                block = null;
            } else if (block != null) {
                block.append(line).append('\n');
            }
        }
        return found;
    }

    /** The functions of the page as they are; of its runs, each call with what is due of it. */
    private static String program(List<String> blocks) {
        StringBuilder functions = new StringBuilder();
        StringBuilder run = new StringBuilder();
        for (String block : blocks) {
            if (block.startsWith("static ")) {
                functions.append(block);
                continue;
            }
            for (String line : block.split("\n")) {
                Matcher call = ANSWERED.matcher(line);
                boolean answered = call.matches();
                String quoted = answered ? call.group(1).replace("\"", "'") : "";
                run.append(answered ? "due(\"" + quoted + "\", " + call.group(1) + ", " + call.group(2) + ");" : line).append('\n');
            }
        }
        return "public final class Page {\npublic static int wrong = 0;\npublic static int asked = 0;\n"
            + "static void due(String call, int got, int want) { asked++; if (got != want) { wrong++; "
            + "System.out.println(call + \" answered \" + got + \", README.md says \" + want); } }\n"
            + functions + "public static void run() {\n" + run + "}\n}\n";
    }

    private static int runPage(String program, Path room) throws IOException, ReflectiveOperationException {
        Path file = room.resolve("Page.java");
        Files.writeString(file, program);
        String classes = System.getProperty("java.class.path");
        int compiled = ToolProvider.getSystemJavaCompiler().run(null, null, null, "-cp", classes, "-d", room.toString(), file.toString());
        if (compiled != 0) {
            System.out.println("what README.md shows can't be compiled");
            return 1;
        }
        try (URLClassLoader loader = new URLClassLoader(new URL[] {room.toUri().toURL()})) {
            Class<?> page = loader.loadClass("Page");
            page.getMethod("run").invoke(null);
            System.out.println(page.getField("asked").getInt(null) + " answers of README.md were asked for");
            int few = page.getField("asked").getInt(null) < 30 ? 1 : 0;
            return page.getField("wrong").getInt(null) + few;
        }
    }

    private static int unnamed(String text) {
        Set<String> missing = new HashSet<>();
        Stream.of(ProofTrim.class.getDeclaredMethods()).filter(m -> java.lang.reflect.Modifier.isPublic(m.getModifiers()))
            .map(m -> m.getName()).filter(name -> !text.contains("`" + name + "(") || !text.contains("x." + name + "(")).forEach(missing::add);
        if (!missing.isEmpty()) {
            System.out.println("README.md does not tell, or does not show, " + missing);
        }
        return missing.size();
    }

    private static void clear(Path room) throws IOException {
        try (Stream<Path> all = Files.walk(room)) {
            for (Path path : all.sorted(Comparator.reverseOrder()).toList()) {
                Files.delete(path);
            }
        }
    }

    public static void main(String[] args) throws IOException, ReflectiveOperationException {
        Path page = Path.of("README.md");
        Path room = Files.createTempDirectory("readme");
        int wrong = unnamed(Files.readString(page));
        try {
            wrong += runPage(program(blocks(Files.readAllLines(page))), room);
        } finally {
            clear(room);
        }
        System.out.println(wrong == 0 ? "README.md is as the program" : wrong + " places of README.md are not as due");
        if (wrong != 0) {
            System.exit(1);
        }
    }
}
