import java.io.IOException;
import java.lang.reflect.Constructor;
import java.lang.reflect.Field;
import java.lang.reflect.Member;
import java.lang.reflect.Method;
import java.lang.reflect.Modifier;
import java.nio.file.Files;
import java.nio.file.Path;
import java.util.ArrayList;
import java.util.Arrays;
import java.util.List;
import java.util.Set;
import java.util.TreeSet;
import java.util.regex.Matcher;
import java.util.regex.Pattern;

/** The public face, and those rules of ../shared/LANGUAGE.md that can be seen from the class's words. */
public final class FaceTest {
    private static final Path SOURCE = Path.of("src/main/java/PianoCrews.java");
    private static final Due due = new Due();

    private static final String[] FACE = {
        "set(int,int)", "person(int)", "buy(int)", "job(int,int,int,int,int)", "begin(int,int,int)", "assign()",
        "delay(int,int)", "callOff(int)", "pass(int)", "of(int,int)", "ofJob(int,int)", "waiting(int)",
        "straps(int,int)", "count(int)", "why(int,int,int)", "crew(int,int)", "bestStraps(int)", "doneIn(int)",
        "ifAssigned()", "put(long)", "wipe()", "fault()", "carryOut()", "undo()", "save(int)", "restore(int)",
    };
    private static final String[] CONSTANTS = {
        "NO_SUCH=-1", "BAD_VALUE=-2", "BAD_TEXT=-3", "TOO_MANY=-4", "NOT_POSSIBLE=-5", "NONE=-6",
        "STEP=0", "REST=1", "TIRE=2", "HANDS=3",
    };
    private static final String[] FORBIDDEN = {
        "throw", "throws", "try", "catch", "finally", "synchronized", "assert", "import", "package", "->", "::",
        "Object", "System.out", "Random", "Thread", "Exact", "equals", "hashCode", "toString",
    };

    public static void main(String[] args) throws Exception {
        face();
        words();
        names();
        due.end();
    }

    private static void same(String what, Set<String> got, String[] want) {
        Set<String> wanted = new TreeSet<>(Arrays.asList(want));
        due.is(what + " " + got, got.equals(wanted) ? 1 : 0, 1);
    }

    private static void face() throws IllegalAccessException {
        Class<?> c = PianoCrews.class;
        due.is("modifiers", c.getModifiers(), Modifier.PUBLIC | Modifier.FINAL);
        Constructor<?>[] made = c.getDeclaredConstructors();
        due.is("constructors", made.length, 1);
        due.is("constructor", made[0].getParameterCount() == 0 && Modifier.isPublic(made[0].getModifiers()) ? 1 : 0, 1);
        Set<String> methods = new TreeSet<>();
        for (Method m : c.getDeclaredMethods()) {
            if (isSeen(m)) {
                methods.add(named(m));
                due.is(m + " gives int", m.getReturnType() == int.class && Modifier.isPublic(m.getModifiers()) ? 1 : 0, 1);
            }
        }
        same("methods", methods, FACE);
        Set<String> constants = new TreeSet<>();
        for (Field f : c.getDeclaredFields()) {
            if (isSeen(f)) {
                constants.add(f.getName() + "=" + f.get(null));
            }
        }
        same("constants", constants, CONSTANTS);
    }

    private static boolean isSeen(Member member) {
        return !Modifier.isPrivate(member.getModifiers()) && !member.isSynthetic();
    }

    private static String named(Method m) {
        List<String> types = new ArrayList<>();
        for (Class<?> type : m.getParameterTypes()) {
            types.add(type.getName());
        }
        return m.getName() + "(" + String.join(",", types) + ")";
    }

    /** The words of the source, without its comments. */
    private static String source() throws IOException {
        String text = Files.readString(SOURCE);
        return text.replaceAll("(?s)/\\*.*?\\*/", " ").replaceAll("//[^\n]*", " ");
    }

    private static void words() throws IOException {
        String text = source();
        for (String word : FORBIDDEN) {
            Matcher found = Pattern.compile("(?<![A-Za-z])" + Pattern.quote(word) + "(?![A-Za-z])").matcher(text);
            due.is("uses " + word, found.find() ? 1 : 0, 0);
        }
        due.is("other signs", text.chars().filter(sign -> sign > 126).count(), 0);
    }

    /** No other method bears the name of a public one, and a class has some twenty fields at most. */
    private static void names() {
        Set<String> open = new TreeSet<>();
        for (String method : FACE) {
            open.add(method.substring(0, method.indexOf('(')));
        }
        Class<?>[] inside = PianoCrews.class.getDeclaredClasses();
        due.is("classes", inside.length < 12 ? 1 : 0, 1);
        for (Class<?> c : inside) {
            due.is(c + " is static", Modifier.isStatic(c.getModifiers()) ? 1 : 0, 1);
            for (Method m : c.getDeclaredMethods()) {
                due.is(m + " bears a public name", open.contains(m.getName()) ? 1 : 0, 0);
                due.is(m + " has too many parameters", m.getParameterCount() > 7 ? 1 : 0, 0);
            }
            int fields = 0;
            for (Field f : c.getDeclaredFields()) {
                fields += Modifier.isStatic(f.getModifiers()) ? 0 : 1;
            }
            due.is(c + " fields", fields <= 20 ? 1 : 0, 1);
        }
    }
}
