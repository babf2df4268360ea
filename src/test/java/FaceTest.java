import java.io.IOException;
import java.lang.reflect.Field;
import java.lang.reflect.Method;
import java.lang.reflect.Modifier;
import java.nio.file.Files;
import java.nio.file.Path;
import java.util.Set;
import java.util.TreeSet;
import java.util.regex.Matcher;
import java.util.regex.Pattern;

/** The public face is the one that the document shows, no more and no less; the fields keep to LANGUAGE.md (1, 2, 5, 10). */
public final class FaceTest {
    private static final Pattern METHOD = Pattern.compile("public (\\w+ \\w+)\\((.*)\\);");
    private static final Pattern CONSTANT = Pattern.compile("public static final int (\\w+ = -?\\d+);");

    private static final Set<String> METHODS = new TreeSet<>();
    private static final Set<String> CONSTANTS = new TreeSet<>();

    private static void readTheDocument() throws IOException {
        String document = Files.readString(Path.of("../shared/DOC.md"));
        String face = document.substring(document.indexOf("## The public face"), document.indexOf("## Terms"));
        Matcher method = METHOD.matcher(face);
        while (method.find()) {
            METHODS.add(method.group(1) + "(" + method.group(2).replaceAll("(\\w+) \\w+", "$1") + ")");
        }
        Matcher constant = CONSTANT.matcher(face);
        while (constant.find()) {
            CONSTANTS.add(constant.group(1));
        }
        // One line for the class, one for the constructor and one with the last brace.
        int others = 3;
        String block = face.substring(face.indexOf("```java\n") + 8, face.lastIndexOf("```"));
        Check.due("lines of the document's face", METHODS.size() + CONSTANTS.size() + others, block.split("\n").length);
    }

    private static String signature(Method method) {
        StringBuilder text = new StringBuilder(method.getReturnType() + " " + method.getName() + "(");
        for (Class<?> type : method.getParameterTypes()) {
            text.append(text.charAt(text.length() - 1) == '(' ? "" : ", ").append(type);
        }
        return text.append(")").toString();
    }

    private static void methods() {
        Set<String> found = new TreeSet<>();
        for (Method method : UnixPersonality.class.getDeclaredMethods()) {
            int modifiers = method.getModifiers();
            if (Modifier.isPublic(modifiers)) {
                found.add(signature(method));
                Check.due(method + " is static", Modifier.isStatic(modifiers), false);
            } else {
                Check.due(method + " is private", Modifier.isPrivate(modifiers), true);
            }
        }
        Check.due("the public methods " + found, found.equals(METHODS), true);
        Check.due("constructors", UnixPersonality.class.getDeclaredConstructors().length, 1);
        Check.due("public constructors", UnixPersonality.class.getConstructors().length, 1);
        Check.due("its parameters", UnixPersonality.class.getConstructors()[0].getParameterCount(), 0);
    }

    private static void fields() throws IllegalAccessException {
        Set<String> found = new TreeSet<>();
        int held = 0;
        for (Field field : UnixPersonality.class.getDeclaredFields()) {
            int modifiers = field.getModifiers();
            Class<?> type = field.getType();
            if (Modifier.isPublic(modifiers)) {
                found.add(field.getName() + " = " + field.get(null));
            } else {
                Check.due(field + " is private", Modifier.isPrivate(modifiers), true);
            }
            if (Modifier.isStatic(modifiers)) {
                Check.due(field + " is a constant", Modifier.isFinal(modifiers) && type == int.class, true);
            } else {
                held++;
                Class<?> element = type.isArray() ? type.getComponentType() : type;
                Check.due(field + " is of whole numbers", element.isPrimitive() && element != double.class
                    && element != float.class, true);
            }
        }
        Check.due("the public constants " + found, found.equals(CONSTANTS), true);
        Check.due("fields beside the constants, at most 40", held <= 40, true);
    }

    public static void main(String[] args) throws IOException, IllegalAccessException {
        readTheDocument();
        Check.due("public final class", Modifier.isPublic(UnixPersonality.class.getModifiers())
            && Modifier.isFinal(UnixPersonality.class.getModifiers()), true);
        Check.due("nested classes", UnixPersonality.class.getDeclaredClasses().length, 0);
        methods();
        fields();
        Check.finish();
    }
}
