import java.lang.reflect.Field;
import java.lang.reflect.Method;
import java.lang.reflect.Modifier;
import java.util.Arrays;
import java.util.Set;
import java.util.TreeSet;

/** The public face is the document's, no more and no less, and the fields are as LANGUAGE.md (1, 2, 5, 10) wants them. */
public final class FaceTest {
    private static final Set<String> METHODS = new TreeSet<>(Arrays.asList(
        "int file(int, int, int)", "int spawn(int, int)", "int run(int)", "int state(int)", "int spot(int)",
        "int register(int, int)", "int descriptor(int, int)", "int entry(int, int)", "int kind(int)", "int size(int)",
        "int word(int, int)", "int pipe(int)", "long executed()", "int printed()", "int output(int)", "boolean level(int)"));
    private static final Set<String> CONSTANTS = new TreeSet<>(Arrays.asList(
        "BAD = -1000000", "FREE = 0", "READY = 1", "WAITING = 2", "ENDED = 3"));

    private static String signature(Method method) {
        StringBuilder text = new StringBuilder(method.getReturnType() + " " + method.getName() + "(");
        for (Class<?> type : method.getParameterTypes()) {
            text.append(text.charAt(text.length() - 1) == '(' ? "" : ", ").append(type);
        }
        return text.append(")").toString();
    }

    private static void methods() {
        Set<String> found = new TreeSet<>();
        for (Method method : UnixPersonality.class.getDeclaredMethods()) {
            int modifiers = method.getModifiers();
            if (Modifier.isPublic(modifiers)) {
                found.add(signature(method));
                Check.due(method + " is static", Modifier.isStatic(modifiers), false);
            } else {
                Check.due(method + " is private", Modifier.isPrivate(modifiers), true);
            }
        }
        Check.due("the public methods " + found, found.equals(METHODS), true);
        Check.due("constructors", UnixPersonality.class.getDeclaredConstructors().length, 1);
        Check.due("public constructors", UnixPersonality.class.getConstructors().length, 1);
        Check.due("its parameters", UnixPersonality.class.getConstructors()[0].getParameterCount(), 0);
    }

    private static void fields() throws IllegalAccessException {
        Set<String> found = new TreeSet<>();
        int held = 0;
        for (Field field : UnixPersonality.class.getDeclaredFields()) {
            int modifiers = field.getModifiers();
            Class<?> type = field.getType();
            if (Modifier.isPublic(modifiers)) {
                found.add(field.getName() + " = " + field.get(null));
            } else {
                Check.due(field + " is private", Modifier.isPrivate(modifiers), true);
            }
            if (Modifier.isStatic(modifiers)) {
                Check.due(field + " is a constant", Modifier.isFinal(modifiers) && type == int.class, true);
            } else {
                held++;
                Class<?> element = type.isArray() ? type.getComponentType() : type;
                Check.due(field + " is of whole numbers", element.isPrimitive() && element != double.class
                    && element != float.class, true);
            }
        }
        Check.due("the public constants " + found, found.equals(CONSTANTS), true);
        Check.due("fields beside the constants, at most 40", held <= 40, true);
    }

    public static void main(String[] args) throws IllegalAccessException {
        Check.due("public final class", Modifier.isPublic(UnixPersonality.class.getModifiers())
            && Modifier.isFinal(UnixPersonality.class.getModifiers()), true);
        Check.due("nested classes", UnixPersonality.class.getDeclaredClasses().length, 0);
        methods();
        fields();
        Check.finish();
    }
}
