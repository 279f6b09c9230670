import java.io.IOException;
import java.lang.reflect.Array;
import java.lang.reflect.Field;
import java.lang.reflect.Method;
import java.lang.reflect.Modifier;
import java.nio.file.Files;
import java.nio.file.Path;
import java.util.Arrays;
import java.util.IdentityHashMap;
import java.util.Map;
import java.util.Set;
import java.util.TreeSet;
import java.util.regex.Matcher;
import java.util.regex.Pattern;

/** What can be seen of the rules of ../shared/LANGUAGE.md in the text of the class, and the room that an object takes. */
public final class RulesTest {
    static final Path SOURCE = Path.of("src/main/java/CardCutter.java");
    static final int MOST_OBJECTS = 1000;
    static final int MOST_ELEMENTS = 20000;
    static final Set<String> LIBRARY = new TreeSet<>(Arrays.asList("String", "StringBuilder", "Integer", "Long", "Math",
        "System", "Arrays", "ArrayList", "List", "Iterator", "Iterable", "Comparable", "IllegalStateException",
        "IllegalArgumentException", "IndexOutOfBoundsException", "ArithmeticException", "UnsupportedOperationException",
        "NoSuchElementException", "RuntimeException"));
    static int wrong = 0;

    static void due(int rule, boolean ok, String what) {
        if (!ok) {
            wrong++;
            System.out.println("rule " + rule + ": " + what);
        }
    }

    /** The text without remarks and without what stands in quotes. */
    static String bare(String text) {
        return text.replaceAll("(?s)/\\*.*?\\*/", "").replaceAll("//[^\n]*", "")
            .replaceAll("\"[^\"\n]*\"", "\"\"").replaceAll("'[^'\n]+'", "' '");
    }

    static void words(String text) {
        String[] never = {"finally", "synchronized", "assert", "package", "native", "volatile", "hashCode"};
        for (String word : never) {
            due(6, !Pattern.compile("\\b" + word + "\\b").matcher(text).find(), word);
        }
        due(2, !text.contains("->") && !text.contains("::"), "a lambda, or a method reference");
        due(5, !Pattern.compile("static\\s*\\{").matcher(text).find(), "a static initialiser");
        due(4, !text.contains("Exact("), "an Exact function");
        Matcher imports = Pattern.compile("import java\\.util\\.(\\w+);|import .*").matcher(text);
        while (imports.find()) {
            due(4, imports.group(1) != null && LIBRARY.contains(imports.group(1)), imports.group());
        }
    }

    static void library(String text) {
        Set<String> own = new TreeSet<>();
        Matcher classes = Pattern.compile("\\bclass (\\w+)").matcher(text);
        while (classes.find()) {
            own.add(classes.group(1));
        }
        due(11, own.size() <= 12, own.size() + " classes");
        Matcher names = Pattern.compile("(?<![\\w.])([A-Z]\\w*[a-z]\\w*)\\b").matcher(text);
        while (names.find()) {
            due(4, own.contains(names.group(1)) || LIBRARY.contains(names.group(1)), names.group(1));
        }
        Matcher calls = Pattern.compile("\\bSystem\\.(\\w+)").matcher(text);
        while (calls.find()) {
            due(4, calls.group(1).equals("arraycopy"), calls.group());
        }
    }

    static void methodLengths(String text) {
        String[] lines = text.split("\n");
        int begin = -1;
        String indent = "";
        for (int i = 0; i < lines.length; i++) {
            Matcher head = Pattern.compile("( {4}| {8})(?! )[\\w\\[\\] ]+\\(.*\\{").matcher(lines[i]);
            if (begin < 0 && head.matches() && !lines[i].trim().startsWith("for")) {
                begin = i;
                indent = head.group(1);
            } else if (begin >= 0 && lines[i].equals(indent + "}")) {
                due(11, i - begin < 60, lines[begin].trim() + " has " + (i - begin) + " lines");
                begin = -1;
            }
        }
    }

    static void shape(Class<?> c) {
        int fields = 0;
        for (Field f : c.getDeclaredFields()) {
            boolean fixed = Modifier.isStatic(f.getModifiers());
            fields += fixed ? 0 : 1;
            due(5, !fixed || Modifier.isFinal(f.getModifiers()), f + " is not final");
        }
        due(11, fields <= 20, c + " has " + fields + " fields");
        for (Method m : c.getDeclaredMethods()) {
            due(11, m.getParameterCount() <= 7, m + " takes too many");
        }
        for (Class<?> inner : c.getDeclaredClasses()) {
            shape(inner);
        }
    }

    /** Counts the object, and all that it holds; answers how many fields and elements these have. */
    static int elementsOf(Object o, Map<Object, Object> seen) throws IllegalAccessException {
        if (o == null || seen.put(o, o) != null) {
            return 0;
        }
        int many = 0;
        if (o.getClass().isArray()) {
            many += Array.getLength(o);
            for (int i = 0; !o.getClass().getComponentType().isPrimitive() && i < Array.getLength(o); i++) {
                many += elementsOf(Array.get(o, i), seen);
            }
            return many;
        }
        for (Field f : o.getClass().getDeclaredFields()) {
            if (!Modifier.isStatic(f.getModifiers())) {
                many++;
                f.setAccessible(true);
                many += f.getType().isPrimitive() ? 0 : elementsOf(f.get(o), seen);
            }
        }
        return many;
    }

    static void room() throws IllegalAccessException {
        Map<Object, Object> seen = new IdentityHashMap<>();
        CardCutter x = new CardCutter();
        int many = elementsOf(x, seen);
        due(12, seen.size() <= MOST_OBJECTS, "an object holds " + seen.size() + " objects");
        due(12, many <= MOST_ELEMENTS, "an object holds " + many + " fields and elements");
        for (int i = 0; i < 100; i++) {
            x.bell();
            x.tick(9);
            x.image();
            x.undo();
            x.back();
        }
        Map<Object, Object> later = new IdentityHashMap<>();
        due(12, elementsOf(x, later) == many && later.keySet().equals(seen.keySet()), "calls make objects that are kept");
    }

    public static void main(String[] args) throws IOException, IllegalAccessException {
        String text = bare(Files.readString(SOURCE));
        words(text);
        library(text);
        methodLengths(text);
        shape(CardCutter.class);
        room();
        System.out.println("rules: " + wrong + " wrong");
        if (wrong != 0) {
            System.exit(1);
        }
    }
}
