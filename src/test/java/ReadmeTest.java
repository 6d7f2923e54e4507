import java.io.IOException;
import java.lang.reflect.Method;
import java.lang.reflect.Modifier;
import java.net.URL;
import java.net.URLClassLoader;
import java.nio.file.Files;
import java.nio.file.Path;
import java.util.ArrayList;
import java.util.HashSet;
import java.util.List;
import java.util.Set;
import java.util.regex.Matcher;
import java.util.regex.Pattern;
import java.util.stream.Stream;
import javax.tools.ToolProvider;

/** README.md: what it shows as an example answers as it says, and it tells of every call and every test. */
public final class ReadmeTest {
    /** A call with what it answers behind it. */
    private static final Pattern SHOWN =
        Pattern.compile("(x\\.(\\w+)\\((.*)\\));\\s*// (-?\\d+|true|false|NONE|GREAT)(:.*)?");
    /** A call of the face without an answer: nothing would be held against it. */
    private static final Pattern UNTOLD = Pattern.compile("x\\.\\w+\\(.*\\);.*");
    private static final Pattern QUOTED = Pattern.compile("\"(.*)\"");
    private static final String TESTS = "src/test/java";

    public static void main(String[] args) throws Exception {
        List<String> lines = Files.readAllLines(Path.of("README.md"));
        List<List<String>> blocks = blocks(lines);
        List<Matcher> shown = shown(blocks);
        answers(shown, run(source(blocks)));
        feeds(shown);
        face(shown);
        tests(String.join("\n", lines));
        Check.finish("ReadmeTest");
    }

    private static List<List<String>> blocks(List<String> lines) {
        List<List<String>> blocks = new ArrayList<>();
        boolean isInside = false;
        for (String line : lines) {
            if (line.startsWith("```")) {
                isInside = line.equals("```java");
                if (isInside) {
                    blocks.add(new ArrayList<>());
                }
            } else if (isInside) {
                blocks.get(blocks.size() - 1).add(line);
            }
        }
        return blocks;
    }

    private static boolean isMethod(List<String> block) {
        return block.get(0).startsWith("static ");
    }

    private static List<Matcher> shown(List<List<String>> blocks) {
        List<Matcher> shown = new ArrayList<>();
        for (List<String> block : blocks) {
            for (String line : block) {
                Matcher call = SHOWN.matcher(line);
                if (call.matches()) {
                    shown.add(call);
                } else if (!isMethod(block)) {
                    Check.due("an answer stands behind " + line, UNTOLD.matcher(line).matches(), false);
                }
            }
        }
        return shown;
    }

    /** A class that makes the calls of the page, one behind the other, and lists their answers. */
    private static String source(List<List<String>> blocks) {
        StringBuilder methods = new StringBuilder();
        StringBuilder calls = new StringBuilder();
        for (List<String> block : blocks) {
            StringBuilder text = isMethod(block) ? methods : calls;
            for (String line : block) {
                Matcher call = SHOWN.matcher(line);
                text.append(call.matches() ? "answers.add(" + call.group(1) + ");" : line).append('\n');
            }
        }
        return "public class Shown {\npublic static java.util.List<Object> answers() {\n"
            + "java.util.List<Object> answers = new java.util.ArrayList<>();\n" + calls + "return answers;\n}\n"
            + methods + "}\n";
    }

    private static List<?> run(String source) throws Exception {
        Path room = Files.createTempDirectory("readme");
        Path file = room.resolve("Shown.java");
        try {
            Files.writeString(file, source);
            int wrong = ToolProvider.getSystemJavaCompiler().run(null, null, null, "-cp",
                System.getProperty("java.class.path"), "-d", room.toString(), file.toString());
            Check.due("what is shown compiles", wrong, 0);
            if (wrong != 0) {
                return List.of();
            }
            try (URLClassLoader loader = new URLClassLoader(new URL[] {room.toUri().toURL()})) {
                return (List<?>) loader.loadClass("Shown").getMethod("answers").invoke(null);
            }
        } finally {
            Files.deleteIfExists(room.resolve("Shown.class"));
            Files.deleteIfExists(file);
            Files.deleteIfExists(room);
        }
    }

    private static void answers(List<Matcher> shown, List<?> answers) {
        Check.due("answers", answers.size(), shown.size());
        for (int i = 0; i < Math.min(answers.size(), shown.size()); i++) {
            String want = shown.get(i).group(4);
            String told = want.equals("NONE") ? "-1" : want.equals("GREAT") ? "-2" : want;
            Check.same(shown.get(i).group(1), answers.get(i).toString(), told);
        }
    }

    /** The texts that stand behind feeds are what the numbers say. */
    private static void feeds(List<Matcher> shown) {
        for (Matcher call : shown) {
            if (!call.group(2).equals("feed")) {
                continue;
            }
            StringBuilder bytes = new StringBuilder();
            for (String number : call.group(3).split(", ")) {
                for (int shift = 24; shift >= 0; shift -= 8) {
                    bytes.append((char) (Integer.decode(number) >> shift & 255));
                }
            }
            Matcher text = QUOTED.matcher(call.group(5));
            Check.same(call.group(1), text.find() ? text.group(1) : "", bytes.toString());
        }
    }

    private static void face(List<Matcher> shown) {
        Set<String> names = new HashSet<>();
        for (Matcher call : shown) {
            names.add(call.group(2));
        }
        for (Method method : StreetNames.class.getDeclaredMethods()) {
            if (Modifier.isPublic(method.getModifiers())) {
                Check.due(method.getName() + " is shown", names.contains(method.getName()), true);
            }
        }
    }

    private static void tests(String page) throws IOException {
        Check.due("the page says how tests are run", page.contains("bash .ci/run"), true);
        Check.due(".ci/run can be run", Files.isExecutable(Path.of(".ci/run")), true);
        try (Stream<Path> files = Files.list(Path.of(TESTS))) {
            for (Path file : files.sorted().toList()) {
                String name = file.getFileName().toString().replace(".java", "");
                if (name.endsWith("Test")) {
                    Check.due(name + " stands on the page", page.contains("`" + name + "`"), true);
                }
            }
        }
        Matcher named = Pattern.compile("`(\\w+Test)`").matcher(page);
        while (named.find()) {
            Check.due(named.group(1) + " is there", Files.exists(Path.of(TESTS, named.group(1) + ".java")), true);
        }
    }
}
