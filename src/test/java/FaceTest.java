import java.lang.reflect.Constructor;
import java.lang.reflect.Field;
import java.lang.reflect.Member;
import java.lang.reflect.Method;
import java.lang.reflect.Modifier;
import java.util.ArrayList;
import java.util.Arrays;
import java.util.List;
import java.util.Set;
import java.util.TreeSet;

/** The public face: every constant, the constructor and every method, and no other member. */
public final class FaceTest {
    private static final Due due = new Due();

    private static final String[] FACE = {
        "set(int,int)", "person(int)", "buy(int)", "job(int,int,int,int,int)", "begin(int,int,int)", "assign()",
        "delay(int,int)", "callOff(int)", "pass(int)", "of(int,int)", "ofJob(int,int)", "waiting(int)",
        "straps(int,int)", "count(int)", "why(int,int,int)", "crew(int,int)", "bestStraps(int)", "doneIn(int)",
        "ifAssigned()", "put(long)", "wipe()", "fault()", "carryOut()", "undo()", "save(int)", "restore(int)",
    };
    private static final String[] CONSTANTS = {
        "NO_SUCH=-1", "BAD_VALUE=-2", "BAD_TEXT=-3", "TOO_MANY=-4", "NOT_POSSIBLE=-5", "NONE=-6",
        "STEP=0", "REST=1", "TIRE=2", "HANDS=3",
    };

    public static void main(String[] args) throws Exception {
        face();
        due.end();
    }

    private static void same(String what, Set<String> got, String[] want) {
        Set<String> wanted = new TreeSet<>(Arrays.asList(want));
        due.is(what + " " + got, got.equals(wanted) ? 1 : 0, 1);
    }

    private static void face() throws IllegalAccessException {
        Class<?> c = PianoCrews.class;
        due.is("modifiers", c.getModifiers(), Modifier.PUBLIC | Modifier.FINAL);
        Constructor<?>[] made = c.getDeclaredConstructors();
        due.is("constructors", made.length, 1);
        due.is("constructor", made[0].getParameterCount() == 0 && Modifier.isPublic(made[0].getModifiers()) ? 1 : 0, 1);
        Set<String> methods = new TreeSet<>();
        for (Method m : c.getDeclaredMethods()) {
            if (isSeen(m)) {
                methods.add(named(m));
                due.is(m + " gives int", m.getReturnType() == int.class && Modifier.isPublic(m.getModifiers()) ? 1 : 0, 1);
            }
        }
        same("methods", methods, FACE);
        Set<String> constants = new TreeSet<>();
        for (Field f : c.getDeclaredFields()) {
            if (isSeen(f)) {
                constants.add(f.getName() + "=" + f.get(null));
                due.is(f + " is a constant", f.getModifiers(), Modifier.PUBLIC | Modifier.STATIC | Modifier.FINAL);
                due.is(f + " is an int", f.getType() == int.class ? 1 : 0, 1);
            }
        }
        same("constants", constants, CONSTANTS);
    }

    private static boolean isSeen(Member member) {
        return !Modifier.isPrivate(member.getModifiers()) && !member.isSynthetic();
    }

    private static String named(Method m) {
        List<String> types = new ArrayList<>();
        for (Class<?> type : m.getParameterTypes()) {
            types.add(type.getName());
        }
        return m.getName() + "(" + String.join(",", types) + ")";
    }
}
