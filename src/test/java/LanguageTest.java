import java.io.IOException;
import java.lang.reflect.Constructor;
import java.lang.reflect.Field;
import java.lang.reflect.Method;
import java.lang.reflect.Modifier;
import java.nio.file.Files;
import java.nio.file.Path;
import java.util.Arrays;
import java.util.HashSet;
import java.util.Set;
import java.util.TreeSet;
import java.util.regex.Matcher;
import java.util.regex.Pattern;

/** The face of the class, and the rules of LANGUAGE.md that can be seen from outside or in the text. */
public final class LanguageTest {
    private static final String FACE = "int feed(int,int,int,int,int);boolean end(int);int town();int fault(int);"
        + "int has(int);int letter(int,int,int);int key(int,int,int);int changes(int,int,int,int);"
        + "int alike(int,int,int,int);int alias(int,int);int heard();int heardAt(int);int find();int fades();"
        + "int nearest(int,int,int);int clash(int);int circle(int);int why(int,int);int takes(int,int);int plan(int);"
        + "int planned(int);int least();int houses(int);int house(int,int,int);int at(int,int);int ordered(int);"
        + "int fewest(int);int then(int,int);int would(int,int,int);int stepped(int,int);int gaps(int,int);"
        + "int take(int,int);int carry();int renumber(int);int build(int,int,int);int tear(int,int);int years(int);"
        + "boolean undo();long cost(int,long);long bill(long);boolean keep(int);boolean back(int);int status(int)";
    private static final int MOST_CLASSES = 12;
    private static final int MOST_LINES = 60;
    private static final int MOST_FIELDS = 20;

    public static void main(String[] args) throws IOException {
        face();
        classesInside();
        String text = bare(Files.readString(Path.of(args.length > 0 ? args[0] : "src/main/java/StreetNames.java")));
        words(text);
        lengths(text);
        Check.finish("LanguageTest");
    }

    private static void face() {
        Class<?> type = StreetNames.class;
        Check.due("public and final", Modifier.isPublic(type.getModifiers()) && Modifier.isFinal(type.getModifiers()), true);
        Set<String> open = new TreeSet<>();
        for (Method method : type.getDeclaredMethods()) {
            if (!Modifier.isPrivate(method.getModifiers())) {
                String takes = String.join(",", Arrays.stream(method.getParameterTypes()).map(Class::getName).toList());
                open.add(method.getReturnType().getName() + " " + method.getName() + "(" + takes + ")");
            }
        }
        Check.same("methods that are not private", open.toString(), new TreeSet<>(Arrays.asList(FACE.split(";"))).toString());
        Set<String> fields = new TreeSet<>();
        for (Field field : type.getDeclaredFields()) {
            if (!Modifier.isPrivate(field.getModifiers())) {
                fields.add(field.getType() + " " + field.getName());
            }
        }
        Check.same("fields that are not private", fields.toString(), "[int GREAT, int NONE]");
        Constructor<?>[] made = type.getDeclaredConstructors();
        Check.due("constructors", made.length, 1);
        Check.due("its parameters", made[0].getParameterCount(), 0);
        Check.due("NONE", StreetNames.NONE, -1);
        Check.due("GREAT", StreetNames.GREAT, -2);
    }

    private static void classesInside() {
        Set<String> open = new HashSet<>();
        for (Method method : StreetNames.class.getDeclaredMethods()) {
            if (Modifier.isPublic(method.getModifiers())) {
                open.add(method.getName());
            }
        }
        for (Method method : StreetNames.class.getDeclaredMethods()) {
            boolean isOpen = Modifier.isPublic(method.getModifiers());
            Check.due(method.getName() + " bears a public name", open.contains(method.getName()), isOpen);
        }
        fieldsAreFew(StreetNames.class);
        Class<?>[] inside = StreetNames.class.getDeclaredClasses();
        Check.due("classes are few", inside.length < MOST_CLASSES, true);
        for (Class<?> type : inside) {
            int kind = type.getModifiers();
            Check.due(type.getName() + " is static", Modifier.isStatic(kind), true);
            Check.due(type.getName() + " is seen outside", Modifier.isPublic(kind) || Modifier.isProtected(kind), false);
            for (Method method : type.getDeclaredMethods()) {
                Check.due(method + " bears a public name", open.contains(method.getName()), false);
                Check.due(method + " takes few", method.getParameterCount() <= 7, true);
            }
            for (Field field : type.getDeclaredFields()) {
                boolean isState = Modifier.isStatic(field.getModifiers()) && !Modifier.isFinal(field.getModifiers());
                Check.due(field + " is static state", isState, false);
            }
            fieldsAreFew(type);
        }
    }

    private static void fieldsAreFew(Class<?> type) {
        long fields = Arrays.stream(type.getDeclaredFields()).filter(f -> !Modifier.isStatic(f.getModifiers())).count();
        Check.due("fields of " + type.getName() + " are few", fields <= MOST_FIELDS, true);
    }

    /** The text without comments, texts and signs. */
    private static String bare(String text) {
        return text.replaceAll("(?s)/\\*.*?\\*/", " ").replaceAll("//[^\n]*", " ")
            .replaceAll("\"(\\\\.|[^\"\\\\])*\"", "\"\"").replaceAll("'(\\\\.|[^'\\\\])'", "' '");
    }

    private static void words(String text) {
        String[] barred = {"throw", "throws", "try", "catch", "finally", "synchronized", "assert", "volatile", "native",
            "Exception", "Object", "hashCode", "toString", "equals", "Thread", "Random", "var", "yield"};
        for (String word : barred) {
            Check.due(word + " stands in the text", Pattern.compile("\\b" + word + "\\b").matcher(text).find(), false);
        }
        for (String sign : new String[] {"->", "::", "@", "package ", "strictfp", "Exact("}) {
            Check.due(sign + " stands in the text", text.contains(sign), false);
        }
        Matcher imports = Pattern.compile("import ([^;]+);").matcher(text);
        while (imports.find()) {
            Check.same("import", imports.group(1), "java.util.Arrays");
        }
        Matcher calls = Pattern.compile("\\b(System|Math|Integer|Long|Arrays|String|Character)\\.(\\w+)").matcher(text);
        Set<String> allowed = Set.of("System.arraycopy", "Math.max", "Math.min", "Math.abs", "Integer.bitCount",
            "Arrays.fill");
        while (calls.find()) {
            Check.due(calls.group() + " is of the library", allowed.contains(calls.group()), true);
        }
    }

    /** Methods end with a brace as far in as their head. */
    private static void lengths(String text) {
        String[] lines = text.split("\n", -1);
        for (int i = 0; i < lines.length; i++) {
            Matcher head = Pattern.compile("^( {4}| {8})\\S.*\\) \\{$").matcher(lines[i]);
            if (!head.matches() || lines[i].contains(" class ")) {
                continue;
            }
            int end = i;
            while (end < lines.length && !lines[end].equals(head.group(1) + "}")) {
                end++;
            }
            Check.due("lines of " + lines[i].trim() + " are few", end - i + 1 <= MOST_LINES, true);
        }
    }
}
