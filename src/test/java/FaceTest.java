import java.lang.reflect.Constructor;
import java.lang.reflect.Field;
import java.lang.reflect.Method;
import java.lang.reflect.Modifier;
import java.util.ArrayList;
import java.util.List;
import java.util.TreeSet;

/** The public face, as the document writes it, and nothing beside it that others can see. */
public final class FaceTest {
    private static final String INDEX = " throws IndexOutOfBoundsException";
    private static final String STATE = INDEX + ",IllegalStateException";
    private static final List<String> METHODS = List.of(
            "public int logon(int)" + STATE,
            "public int logout(int)" + STATE,
            "public boolean crash(int)" + INDEX,
            "public int endDay() throws IllegalStateException",
            "public int send(int,int) throws IndexOutOfBoundsException,IllegalArgumentException,IllegalStateException",
            "public int again(int,int)" + STATE,
            "public int deliver(int)" + STATE,
            "public int lose(int)" + STATE,
            "public int tick()",
            "public int stateOf(int)" + INDEX,
            "public int next(int)" + INDEX,
            "public int expected(int)" + INDEX,
            "public boolean isAsking(int)" + INDEX,
            "public int wire(int)" + INDEX,
            "public int numberAt(int,int)" + INDEX,
            "public int textLength(int,int)" + INDEX,
            "public char textChar(int,int,int)" + INDEX,
            "public int handled(int)" + INDEX,
            "public int handledKey(int,int)" + INDEX,
            "public int doubles(int)" + INDEX,
            "public int agreed(int)" + INDEX);
    private static final List<String> CONSTANTS = List.of("NONE = -1", "OFF = 0", "WAITING = 1", "ON = 2", "LOGON = 0",
            "HEARTBEAT = 1", "TEST = 2", "RESEND = 3", "FILL = 4", "BUSINESS = 5", "LOGOUT = 6");
    private static final Check check = new Check();

    public static void main(String[] args) throws IllegalAccessException {
        check.sentence("The public face");
        theClass();
        methods();
        constants();
        noOtherState();
        check.end();
    }

    private static void theClass() {
        check.same("the class", Modifier.toString(SessionFix.class.getModifiers()), "public final");
        check.same("its package", SessionFix.class.getPackageName(), "");
        List<String> constructors = new ArrayList<>();
        for (Constructor<?> constructor : SessionFix.class.getDeclaredConstructors()) {
            constructors.add(constructor.toString());
        }
        check.same("its constructors", constructors.toString(), "[public SessionFix()]");
        for (Class<?> inside : SessionFix.class.getDeclaredClasses()) {
            int modifiers = inside.getModifiers();
            check.same(inside + " is public or protected", Modifier.isPublic(modifiers) || Modifier.isProtected(modifiers),
                    false);
            check.same(inside + " is static", Modifier.isStatic(modifiers), true);
        }
    }

    private static void methods() {
        TreeSet<String> seen = new TreeSet<>();
        TreeSet<String> hidden = new TreeSet<>();
        TreeSet<String> names = new TreeSet<>();
        for (Method method : SessionFix.class.getDeclaredMethods()) {
            if (Modifier.isPrivate(method.getModifiers())) {
                hidden.add(method.getName());
            } else {
                seen.add(method.toString().replace("SessionFix.", "").replace("java.lang.", ""));
                names.add(method.getName());
            }
        }
        check.same("its methods", seen.toString(), new TreeSet<>(METHODS).toString());
        hidden.retainAll(names);
        check.same("private methods with the name of a public one", hidden.toString(), "[]");
    }

    private static void constants() throws IllegalAccessException {
        TreeSet<String> seen = new TreeSet<>();
        for (Field field : SessionFix.class.getDeclaredFields()) {
            if (Modifier.isPrivate(field.getModifiers())) {
                continue;
            }
            check.same(field.getName(), Modifier.toString(field.getModifiers()), "public static final");
            seen.add(field.getName() + " = " + field.getInt(null));
        }
        check.same("its constants", seen.toString(), new TreeSet<>(CONSTANTS).toString());
    }

    private static void noOtherState() {
        for (Field field : SessionFix.class.getDeclaredFields()) {
            int modifiers = field.getModifiers();
            boolean isShared = Modifier.isStatic(modifiers) && !Modifier.isFinal(modifiers);
            check.same(field.getName() + " is shared by all objects", isShared, false);
        }
    }
}
