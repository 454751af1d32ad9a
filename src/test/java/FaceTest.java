import java.lang.reflect.Constructor;
import java.lang.reflect.Field;
import java.lang.reflect.Method;
import java.lang.reflect.Modifier;
import java.util.ArrayList;
import java.util.List;
import java.util.Set;
import java.util.TreeSet;

/** The public face, and rule 1 of LANGUAGE.md: nothing else of the class is to be seen, no name stands twice. */
public final class FaceTest {
    private static final String INDEX = " IndexOutOfBoundsException";
    private static final String ARGUMENT = " IllegalArgumentException";
    private static final String STATE = " IllegalStateException";

    private static final String[] FACE = {
        "letter(char)" + ARGUMENT + STATE,
        "word()" + STATE,
        "note(int,int,boolean)" + ARGUMENT + STATE,
        "song()" + STATE,
        "find()",
        "about(int,int)" + INDEX + ARGUMENT,
        "room()" + STATE,
        "come(int,int)" + INDEX + STATE,
        "leave(int)" + INDEX + STATE,
        "pass()",
        "sings(int)" + INDEX,
        "queue(int,int)" + INDEX + STATE,
        "sing(int,int)" + INDEX + ARGUMENT + STATE,
        "queued(int,int)" + INDEX,
        "claim(int,int,int)" + INDEX + ARGUMENT + STATE,
        "dispute(int,boolean)" + INDEX,
        "earned(int)" + INDEX,
        "earnedAnew(int)" + INDEX,
    };

    public static void main(String[] args) {
        classItself();
        methods();
        constantsAndFields();
        classesInside();
        Check.end();
    }

    private static void classItself() {
        int modifiers = EchoParlour.class.getModifiers();
        Check.due("the class is public", Modifier.isPublic(modifiers) ? 1 : 0, 1);
        Check.due("the class is final", Modifier.isFinal(modifiers) ? 1 : 0, 1);
        Constructor<?>[] constructors = EchoParlour.class.getDeclaredConstructors();
        Check.due("constructors", constructors.length, 1);
        Check.due("its parameters", constructors[0].getParameterCount(), 0);
        Check.due("it is public", Modifier.isPublic(constructors[0].getModifiers()) ? 1 : 0, 1);
    }

    private static void methods() {
        Set<String> due = new TreeSet<>(List.of(FACE));
        Set<String> publicNames = new TreeSet<>();
        for (Method method : EchoParlour.class.getDeclaredMethods()) {
            if (Modifier.isPublic(method.getModifiers())) {
                publicNames.add(method.getName());
                if (!due.remove(describe(method)) || method.getReturnType() != int.class) {
                    Check.fail("not of the face: " + method);
                }
            }
        }
        for (String missing : due) {
            Check.fail("missing: " + missing);
        }
        for (Class<?> type : classes()) {
            for (Method method : type.getDeclaredMethods()) {
                if (!Modifier.isPublic(method.getModifiers())) {
                    if (!Modifier.isPrivate(method.getModifiers())) {
                        Check.fail("neither public nor private: " + method);
                    }
                    if (publicNames.contains(method.getName())) {
                        Check.fail("bears the name of a public one: " + method);
                    }
                }
            }
        }
    }

    private static String describe(Method method) {
        List<String> parameters = new ArrayList<>();
        for (Class<?> parameter : method.getParameterTypes()) {
            parameters.add(parameter.getSimpleName());
        }
        StringBuilder text = new StringBuilder(method.getName() + "(" + String.join(",", parameters) + ")");
        for (Class<?> exception : method.getExceptionTypes()) {
            text.append(' ').append(exception.getSimpleName());
        }
        return text.toString();
    }

    private static void constantsAndFields() {
        for (Field field : EchoParlour.class.getDeclaredFields()) {
            int modifiers = field.getModifiers();
            if (field.getName().equals("NONE")) {
                Check.due("NONE is public", Modifier.isPublic(modifiers) ? 1 : 0, 1);
                Check.due("NONE is an int", field.getType() == int.class ? 1 : 0, 1);
            } else if (!Modifier.isPrivate(modifiers)) {
                Check.fail("not private: " + field);
            }
            if (Modifier.isStatic(modifiers) && !Modifier.isFinal(modifiers)) {
                Check.fail("static, not final: " + field);
            }
        }
    }

    private static List<Class<?>> classes() {
        List<Class<?>> all = new ArrayList<>(List.of(EchoParlour.class.getDeclaredClasses()));
        all.add(EchoParlour.class);
        return all;
    }

    private static void classesInside() {
        for (Class<?> type : EchoParlour.class.getDeclaredClasses()) {
            int modifiers = type.getModifiers();
            if (!Modifier.isStatic(modifiers) || Modifier.isPublic(modifiers) || Modifier.isProtected(modifiers)) {
                Check.fail("not static, or to be seen from outside: " + type);
            }
        }
    }
}
