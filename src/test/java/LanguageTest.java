import java.io.IOException;
import java.lang.reflect.Constructor;
import java.lang.reflect.Field;
import java.lang.reflect.Method;
import java.lang.reflect.Modifier;
import java.nio.file.Files;
import java.nio.file.Path;
import java.util.ArrayList;
import java.util.List;
import java.util.Set;
import java.util.TreeSet;
import java.util.regex.Matcher;
import java.util.regex.Pattern;
import java.util.stream.Collectors;
import java.util.stream.Stream;

/** The face is the document's; the program keeps to those rules of ../shared/LANGUAGE.md that can be looked up. */
public final class LanguageTest {
    private static final Path SOURCE = Path.of("src/main/java/AdjectiveCoupons.java");
    private static final Path DOCUMENT = Path.of("../shared/DOC.md");
    private static final String[] FORBIDDEN = {"throw", "throws", "try", "catch", "finally", "synchronized", "assert",
        "package", "->", "::", "yield", "\\w+Exact", "equals", "hashCode", "toString", "System\\.\\w+",
        "Object", "var", "native", "volatile", "transient", "double", "float", "int\\s*\\[\\]\\s*\\[\\]", "import",
        "protected", "@\\w+", "StringBuilder", "Iterator", "Exception", "Random", "Thread"};
    private static final Checks C = new Checks();

    public static void main(String[] args) throws IOException {
        String source = withoutTexts(Files.readString(SOURCE));
        face(Files.readString(DOCUMENT));
        members();
        insides();
        words(source);
        lengths(source.split("\n"));
        makesNothingInCalls(source.split("\n"));
        C.finish();
    }

    private static void none(String what, Set<String> found) {
        C.due(what + " " + found, found.size(), 0);
    }

    private static void face(String document) {
        String block = document.split("```java")[1].split("```")[0];
        Set<String> due = new TreeSet<>();
        Matcher m = Pattern.compile("public (int )?(\\w+)\\(([^)]*)\\);").matcher(block);
        while (m.find()) {
            int parameters = m.group(3).isEmpty() ? 0 : m.group(3).split(",").length;
            due.add((m.group(1) == null ? "" : "int ") + m.group(2) + "(" + "int ".repeat(parameters).trim() + ")");
        }
        m = Pattern.compile("(\\w+) = (-\\d+)").matcher(block);
        while (m.find()) {
            due.add(m.group(1) + "=" + m.group(2));
        }
        C.due("members in the document", due.size(), 41);
        Set<String> got = publicMembers();
        Set<String> missing = new TreeSet<>(due);
        missing.removeAll(got);
        none("missing", missing);
        got.removeAll(due);
        none("beyond the face", got);
        int modifiers = AdjectiveCoupons.class.getModifiers();
        C.due("public and final", modifiers & (Modifier.PUBLIC | Modifier.FINAL), Modifier.PUBLIC | Modifier.FINAL);
    }

    private static String types(Class<?>[] types) {
        return Stream.of(types).map(Class::getName).collect(Collectors.joining(" ", "(", ")"));
    }

    private static Set<String> publicMembers() {
        Set<String> all = new TreeSet<>();
        for (Method m : AdjectiveCoupons.class.getDeclaredMethods()) {
            if (!Modifier.isPrivate(m.getModifiers())) {
                all.add(m.getReturnType() + " " + m.getName() + types(m.getParameterTypes()));
            }
        }
        for (Constructor<?> c : AdjectiveCoupons.class.getDeclaredConstructors()) {
            all.add(c.getName() + types(c.getParameterTypes()));
        }
        for (Field f : AdjectiveCoupons.class.getDeclaredFields()) {
            if (!Modifier.isPrivate(f.getModifiers())) {
                all.add(f.getName() + "=" + valueOf(f));
            }
        }
        return all;
    }

    private static Object valueOf(Field f) {
        try {
            return f.get(null);
        } catch (IllegalAccessException e) {
            return e;
        }
    }

    private static List<Class<?>> classes() {
        List<Class<?>> all = new ArrayList<>(List.of(AdjectiveCoupons.class.getDeclaredClasses()));
        all.add(AdjectiveCoupons.class);
        return all;
    }

    private static void members() {
        Set<String> publicNames = new TreeSet<>();
        for (Method m : AdjectiveCoupons.class.getDeclaredMethods()) {
            if (Modifier.isPublic(m.getModifiers())) {
                publicNames.add(m.getName());
            }
        }
        Set<String> twice = new TreeSet<>();
        Set<String> many = new TreeSet<>();
        Set<String> state = new TreeSet<>();
        for (Class<?> c : classes()) {
            for (Method m : c.getDeclaredMethods()) {
                if (!Modifier.isPublic(m.getModifiers()) && publicNames.contains(m.getName())) {
                    twice.add(c.getSimpleName() + "." + m.getName());
                }
                if (m.getParameterCount() > 7) {
                    many.add(m.getName());
                }
            }
            int fields = 0;
            for (Field f : c.getDeclaredFields()) {
                fields += Modifier.isStatic(f.getModifiers()) ? 0 : 1;
                if (Modifier.isStatic(f.getModifiers()) && !Modifier.isFinal(f.getModifiers())) {
                    state.add(f.getName());
                }
            }
            C.due("fields of " + c.getSimpleName() + ", at most 20: " + fields, fields <= 20 ? 1 : 0, 1);
        }
        none("names of public methods borne by others", twice);
        none("more than seven parameters", many);
        none("static state", state);
    }

    private static void insides() {
        Set<String> wrong = new TreeSet<>();
        for (Class<?> c : AdjectiveCoupons.class.getDeclaredClasses()) {
            boolean hidden = !Modifier.isPublic(c.getModifiers()) && !Modifier.isProtected(c.getModifiers());
            if (!hidden || !Modifier.isStatic(c.getModifiers())) {
                wrong.add(c.getSimpleName());
            }
        }
        none("classes inside that are seen or not static", wrong);
        C.due("classes, at most twelve: " + classes().size(), classes().size() <= 12 ? 1 : 0, 1);
    }

    private static String withoutTexts(String source) {
        return source.replaceAll("\"[^\"\n]*\"", "\"\"").replaceAll("'.'", "' '")
            .replaceAll("(?s)/\\*.*?\\*/", "").replaceAll("//[^\n]*", "");
    }

    private static void words(String source) {
        for (String word : FORBIDDEN) {
            boolean isWord = Character.isLetter(word.charAt(0));
            Matcher m = Pattern.compile(isWord ? "\\b" + word + "\\b" : word).matcher(source);
            C.due("'" + word + "' in the source", m.find() ? 1 : 0, 0);
        }
    }

    /** Methods are laid out so that their last line is a brace as far in as their first line. */
    private static void lengths(String[] lines) {
        Set<String> many = new TreeSet<>();
        for (int i = 0; i < lines.length; i++) {
            Matcher m = Pattern.compile("^( {4}| {8})\\w.*\\) \\{$").matcher(lines[i]);
            int end = i;
            while (m.matches() && !lines[end].equals(m.group(1) + "}")) {
                end++;
            }
            if (end - i > 60) {
                many.add(lines[i].trim());
            }
        }
        none("methods of more than sixty lines", many);
    }

    /** All calls of a run share one room: objects are made with the object alone, in fields and constructors. */
    private static void makesNothingInCalls(String[] lines) {
        Set<String> made = new TreeSet<>();
        for (String line : lines) {
            boolean isField = line.trim().startsWith("private final ");
            boolean isInConstructor = line.trim().matches("(undoable|kept|lines)\\[i\\] = new \\w+\\(\\);|cells = .*");
            if (line.contains("new ") && !isField && !isInConstructor) {
                made.add(line.trim());
            }
        }
        none("made outside constructors", made);
    }
}
