import java.io.IOException;
import java.lang.reflect.Field;
import java.lang.reflect.Method;
import java.lang.reflect.Modifier;
import java.nio.file.Files;
import java.nio.file.Path;
import java.util.ArrayList;
import java.util.List;
import java.util.Map;
import java.util.Set;
import java.util.TreeMap;
import java.util.TreeSet;
import java.util.regex.Matcher;
import java.util.regex.Pattern;

/** The rules of ../shared/LANGUAGE.md, as far as the words of the source and what javac makes of them show. */
public final class LanguageTest {
    private static final Path SOURCE = Path.of("src/main/java/PianoCrews.java");
    private static final Due due = new Due();

    private static final String[] FORBIDDEN_WORDS = {
        "throw", "throws", "try", "catch", "finally", "synchronized", "assert", "import", "package", "->", "::",
        "Object", "System.out", "Random", "Thread", "Exact", "equals", "hashCode", "toString",
    };
    /** What rule 4 lists and the class uses; more of the list may be put here when it is needed. */
    private static final Set<String> LIBRARY = Set.of(
        "java/lang/Object.<init>()V", "java/lang/Math.min(II)I", "java/lang/Math.max(II)I",
        "java/lang/Math.floorMod(II)I", "java/lang/Integer.bitCount(I)I", "java/lang/String.length()I",
        "java/lang/String.charAt(I)C", "java/lang/String.indexOf(I)I",
        "java/lang/System.arraycopy(Ljava/lang/Object;ILjava/lang/Object;II)V");
    private static final int MOST_CLASSES = 12, MOST_FIELDS = 20, MOST_PARAMETERS = 7, MOST_LINES = 60, DEEPEST = 8;

    public static void main(String[] args) throws IOException {
        words();
        classesInside();
        names();
        types();
        staticFields();
        instructions();
        library();
        deepestCall();
        due.end();
    }

    private static List<Class<?>> classes() {
        List<Class<?>> classes = new ArrayList<>(List.of(PianoCrews.class.getDeclaredClasses()));
        classes.add(PianoCrews.class);
        return classes;
    }

    private static void words() throws IOException {
        due.says("6 and 3: No throw, try, catch ..; signs are 1 to 127");
        String text = Files.readString(SOURCE).replaceAll("(?s)/\\*.*?\\*/", " ").replaceAll("//[^\n]*", " ");
        for (String word : FORBIDDEN_WORDS) {
            Matcher found = Pattern.compile("(?<![A-Za-z])" + Pattern.quote(word) + "(?![A-Za-z])").matcher(text);
            due.is("uses " + word, found.find() ? 1 : 0, 0);
        }
        due.is("other signs", text.chars().filter(sign -> sign > 126).count(), 0);
    }

    private static void classesInside() {
        due.says("2 and 11: static nested classes, some twelve in the file, with some twenty fields each");
        due.is("too many classes", classes().size() > MOST_CLASSES ? 1 : 0, 0);
        for (Class<?> c : classes()) {
            boolean seen = c == PianoCrews.class || Modifier.isStatic(c.getModifiers());
            due.is(c + " is static", seen ? 1 : 0, 1);
            due.is(c + " has classes inside", c == PianoCrews.class ? 0 : c.getDeclaredClasses().length, 0);
            int fields = 0;
            for (Field field : c.getDeclaredFields()) {
                fields += Modifier.isStatic(field.getModifiers()) ? 0 : 1;
            }
            due.is(c + " has too many fields", fields > MOST_FIELDS ? 1 : 0, 0);
        }
    }

    private static void names() {
        due.says("1 and 11: No private method bears the name of a public one; a method takes at most seven parameters");
        Set<String> open = new TreeSet<>();
        for (Method method : PianoCrews.class.getDeclaredMethods()) {
            if (Modifier.isPublic(method.getModifiers())) {
                open.add(method.getName());
            }
        }
        for (Class<?> c : classes()) {
            for (Method method : c.getDeclaredMethods()) {
                boolean face = c == PianoCrews.class && Modifier.isPublic(method.getModifiers());
                due.is(method + " bears a public name", !face && open.contains(method.getName()) ? 1 : 0, 0);
                due.is(method + " has too many parameters", method.getParameterCount() > MOST_PARAMETERS ? 1 : 0, 0);
            }
        }
    }

    private static void types() {
        due.says("3: int, long, short, byte, char, boolean; arrays of these and of your own classes, of one dimension");
        for (Class<?> c : classes()) {
            for (Field field : c.getDeclaredFields()) {
                Class<?> type = field.getType().isArray() ? field.getType().getComponentType() : field.getType();
                due.is(field + " has another type", type.isPrimitive() || type == String.class
                    || classes().contains(type) ? 0 : 1, 0);
            }
        }
    }

    private static void staticFields() throws IOException {
        due.says("5: Static fields are final: constants, and arrays of int written out and never changed");
        for (Class<?> c : classes()) {
            for (Field field : c.getDeclaredFields()) {
                if (Modifier.isStatic(field.getModifiers())) {
                    due.is(field + " is final", Modifier.isFinal(field.getModifiers()) ? 1 : 0, 1);
                    due.is(field + " is a constant", field.getType() == int.class || field.getType() == String.class
                        || field.getType() == int[].class ? 1 : 0, 1);
                }
            }
        }
        for (Compiled.Method method : methods().values()) {
            due.is(method.name + " puts a static field", method.putsStatic && !method.isForMaking() ? 1 : 0, 0);
        }
    }

    private static Map<String, Compiled.Method> methods() throws IOException {
        Map<String, Compiled.Method> methods = new TreeMap<>();
        for (Class<?> c : classes()) {
            methods.putAll(Compiled.methodsOf(c));
        }
        return methods;
    }

    private static void instructions() throws IOException {
        due.says("6, 11 and 12: nothing thrown, caught or cast; some sixty lines; rows are made in constructors");
        for (Compiled.Method method : methods().values()) {
            due.same(method.name + " uses", method.forbidden.toString(), "[]");
            if (!method.isForMaking()) {
                due.is(method.name + " is too long", method.lines() > MOST_LINES ? 1 : 0, 0);
                due.same(method.name + " makes", method.made.toString(), "[]");
            }
        }
    }

    private static void library() throws IOException {
        due.says("4: The library: only what stands here");
        Map<String, Compiled.Method> methods = methods();
        for (Compiled.Method method : methods.values()) {
            for (String call : method.calls) {
                due.is(method.name + " calls " + call, methods.containsKey(call) || LIBRARY.contains(call) ? 1 : 0, 1);
            }
        }
    }

    private static void deepestCall() throws IOException {
        due.says("11: calls that are no recursion go at most eight deep");
        Map<String, Compiled.Method> methods = methods();
        for (String name : methods.keySet()) {
            due.is(name + " goes too deep", depth(name, methods, 0) > DEEPEST ? 1 : 0, 0);
        }
        due.is("the shallowest is one deep", depth("PianoCrews$Pad.startReading()V", methods, 0), 1);
        due.is("a chain that is known", depth("PianoCrews.waiting(I)I", methods, 0), 5);
    }

    /** How many calls stand open at once, this one and the library's among them; a recursion is deeper than all. */
    private static int depth(String name, Map<String, Compiled.Method> methods, int open) {
        Compiled.Method method = methods.get(name);
        int deepest = 0;
        if (method != null && open <= DEEPEST) {
            for (String call : method.calls) {
                deepest = Math.max(deepest, depth(call, methods, open + 1));
            }
        }
        return deepest + 1;
    }
}
