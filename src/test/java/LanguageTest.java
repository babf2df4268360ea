import java.io.IOException;
import java.nio.file.Files;
import java.nio.file.Path;
import java.util.ArrayList;
import java.util.LinkedHashMap;
import java.util.List;
import java.util.Map;
import java.util.regex.Matcher;
import java.util.regex.Pattern;

/** What of LANGUAGE.md can be seen in the source's text: words that are ruled out, arrays, methods and their calls. */
public final class LanguageTest {
    private static final Pattern HEAD = Pattern.compile(
        "^    (public|private) (?:\\w+ )?(\\w+)\\(([^)]*)\\) \\{$", Pattern.MULTILINE);
    private static final Pattern CALL = Pattern.compile("\\b(\\w+)\\(");
    private static final String[] RULED_OUT = {
        "import", "package", "float", "double", "String", "Object", "Math", "Integer", "Long", "System", "Arrays", "null",
        "throw", "throws", "try", "catch", "finally", "synchronized", "assert", "instanceof", "interface", "enum", "record",
        "protected", "volatile", "native", "extends", "implements", "var", "toString", "hashCode", "equals", "getClass"
    };

    private final String source;
    private final Map<String, String> bodies = new LinkedHashMap<>();

    private LanguageTest(String text) {
        source = text.replaceAll("(?s)/\\*.*?\\*/", "").replaceAll("//[^\n]*", "");
        Matcher head = HEAD.matcher(source);
        while (head.find()) {
            int end = source.indexOf("\n    }\n", head.end());
            Check.due("one method named " + head.group(2), bodies.containsKey(head.group(2)), false);
            bodies.put(head.group(2), source.substring(head.end(), end));
            String parameters = head.group(3);
            Check.due("parameters of " + head.group(2), parameters.split(",").length <= 7, true);
        }
    }

    private void words() {
        for (String word : RULED_OUT) {
            Check.due("'" + word + "' is used", Pattern.compile("\\b" + word + "\\b").matcher(source).find(), false);
        }
        Check.due("a lambda or method reference", source.contains("->") || source.contains("::"), false);
        Check.due("a text", source.contains("\""), false);
        Check.due("methods that are found, with the constructor", bodies.size(),
            UnixPersonality.class.getDeclaredMethods().length + 1);
    }

    private void arrays() {
        Matcher made = Pattern.compile("\\bnew\\b").matcher(source);
        int count = 0;
        while (made.find()) {
            count++;
        }
        Matcher field = Pattern.compile("^    private final \\w+\\[\\] \\w+ = new \\w+\\[[A-Z_]+\\];$", Pattern.MULTILINE)
            .matcher(source);
        int fields = 0;
        while (field.find()) {
            fields++;
        }
        Check.due("arrays that a field's initialiser makes", fields, count);
        Check.due("arrays of arrays", source.contains("[]["), false);
    }

    /** Every loop counts up to a bound in its first line, and nothing else moves its counter. */
    private void loops() {
        Matcher loop = Pattern.compile("\\b(?:for|while|do)\\b[^\n]*").matcher(source);
        Pattern counted = Pattern.compile("for \\(int (\\w+) = \\w+; \\1 < \\w+(?: && \\w+)?; \\1\\+\\+\\) \\{");
        int found = 0;
        while (loop.find()) {
            found++;
            Matcher head = counted.matcher(loop.group());
            boolean counts = head.matches();
            Check.due("'" + loop.group() + "' counts up to a bound", counts, true);
            if (counts) {
                int indent = loop.start() - source.lastIndexOf('\n', loop.start()) - 1;
                String last = "\n" + " ".repeat(indent) + "}\n";
                String body = source.substring(loop.end(), source.indexOf(last, loop.end()));
                Pattern moved = Pattern.compile("(?:\\+\\+|--)" + head.group(1) + "\\b|(?<!\\w)" + head.group(1)
                    + "\\s*(?:\\+\\+|--|[-+*/%&|^]?=(?!=)|<<=|>>>?=)");
                Check.due("the counter of '" + loop.group() + "' is moved inside", moved.matcher(body).find(), false);
            }
        }
        Check.due("loops are found", found > 0, true);
    }

    private List<String> callsOf(String name) {
        List<String> calls = new ArrayList<>();
        Matcher call = CALL.matcher(bodies.get(name));
        while (call.find()) {
            if (bodies.containsKey(call.group(1))) {
                calls.add(call.group(1));
            }
        }
        return calls;
    }

    /** How many methods stand on each other, this one counted; above 50 if it calls itself in the end. */
    private int depth(String name, int above) {
        int deepest = 0;
        if (above < 50) {
            for (String called : callsOf(name)) {
                deepest = Math.max(deepest, depth(called, above + 1));
            }
        }
        return 1 + deepest;
    }

    private void methods() {
        for (Map.Entry<String, String> method : bodies.entrySet()) {
            String name = method.getKey();
            Check.due("lines of " + name + " up to 60", method.getValue().split("\n").length <= 60, true);
            Check.due("calls of " + name + " at most six deep", depth(name, 0) <= 6, true);
            Check.due("a call inside a call's arguments in " + name, hasNestedCall(method.getValue()), false);
        }
    }

    private boolean hasNestedCall(String body) {
        Matcher call = CALL.matcher(body);
        while (call.find()) {
            if (bodies.containsKey(call.group(1))) {
                int open = 1;
                int at = call.end();
                while (open > 0) {
                    char c = body.charAt(at);
                    open += c == '(' ? 1 : c == ')' ? -1 : 0;
                    at++;
                }
                Matcher inner = CALL.matcher(body.substring(call.end(), at));
                if (inner.find()) {
                    return true;
                }
            }
        }
        return false;
    }

    public static void main(String[] args) throws IOException {
        LanguageTest test = new LanguageTest(Files.readString(Path.of("src/main/java/UnixPersonality.java")));
        test.words();
        test.arrays();
        test.loops();
        test.methods();
        Check.finish();
    }
}
