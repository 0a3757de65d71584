import java.lang.reflect.Field;
import java.lang.reflect.Method;
import java.lang.reflect.Modifier;
import java.nio.file.Files;
import java.nio.file.Path;
import java.util.Arrays;
import java.util.LinkedHashMap;
import java.util.Map;
import java.util.Set;
import java.util.TreeSet;
import java.util.regex.Matcher;
import java.util.regex.Pattern;

/** Looks at the public face, and at those rules of LANGUAGE.md that can be read off the text. */
public final class LanguageTest {
    private static final String SOURCE = "src/main/java/SmallBoard.java";
    private static final Pattern CALL = Pattern.compile("\\b([A-Za-z_]\\w*)\\(");
    private static final Pattern METHOD =
        Pattern.compile("(?m)^    (?:public|private)(?: static)?(?: (?:int|boolean|void))? (\\w+)\\(([^)]*)\\) \\{\n(.*?)^    }\n",
            Pattern.DOTALL);

    private static int wrong = 0;

    private static void holds(String what, boolean held) {
        if (!held) {
            wrong++;
            System.out.println("does not hold: " + what);
        }
    }

    private static void face() {
        Set<String> due = new TreeSet<>(Arrays.asList(
            "put(int,int)", "clear()", "begin(int)", "stop()", "move(int,int)", "undo()", "result()",
            "pieceAt(int)", "turn()", "check()", "attackers(int,int)", "moves()", "moveAt(int)",
            "mobile(int)", "count(int)", "value(int)", "best(int)", "mate(int)"));
        Set<String> found = new TreeSet<>();
        for (Method method : SmallBoard.class.getDeclaredMethods()) {
            if (Modifier.isPrivate(method.getModifiers())) {
                continue;
            }
            String kinds = Arrays.toString(method.getParameterTypes()).replaceAll("[\\[\\] ]", "");
            found.add(method.getName() + "(" + kinds + ")");
            holds(method.getName() + " answers an int", method.getReturnType() == int.class);
        }
        holds("the methods are " + due + ", not " + found, due.equals(found));
        holds("the class is public and final",
            SmallBoard.class.getModifiers() == (Modifier.PUBLIC | Modifier.FINAL));
        holds("one constructor", SmallBoard.class.getConstructors().length == 1);
    }

    private static void fields() {
        int kept = 0;
        for (Field field : SmallBoard.class.getDeclaredFields()) {
            int modifiers = field.getModifiers();
            Class<?> type = field.getType();
            Class<?> held = type.isArray() ? type.getComponentType() : type;
            holds("rule 1: private: " + field.getName(), Modifier.isPrivate(modifiers));
            holds("rule 2: numbers, booleans or one-dimensional arrays of them: " + field.getName(),
                held.isPrimitive() && held != float.class && held != double.class);
            if (Modifier.isStatic(modifiers)) {
                holds("rule 5: a constant: " + field.getName(),
                    Modifier.isFinal(modifiers) && (type == int.class || type == long.class));
            } else {
                kept++;
            }
        }
        holds("rule 10: some forty fields at most, not " + kept, kept <= 40);
    }

    private static void words(String text) {
        String[] forbidden = {"import", "package", "String", "Math", "System", "Integer", "Arrays", "Object", "null",
            "throw", "try", "catch", "synchronized", "assert", "instanceof", "float", "double", "enum", "record",
            "interface", "->", "::"};
        for (String word : forbidden) {
            String edge = Character.isLetter(word.charAt(0)) ? "\\b" : "";
            holds("rules 1 to 6: no " + word, !Pattern.compile(edge + word + edge).matcher(text).find());
        }
    }

    /** The rule leaves more than this; but what keeps to the plain form needs no proof that it ends. */
    private static void loops(String text) {
        Pattern counted = Pattern.compile("for \\(int (\\w+) = [^;]+; "
            + "(?:\\1 < \\w+(?: && [^;|]+)?; \\1\\+\\+|\\1 >= 0; \\1 -= \\d+)\\) \\{");
        Matcher loop = Pattern.compile("(?m)\\b(?:for|while|do)\\b.*$").matcher(text);
        int found = 0;
        while (loop.find()) {
            found++;
            holds("rule 8: a counter against a bound: " + loop.group(), counted.matcher(loop.group()).matches());
        }
        holds("the scan finds the loops", found > 0);
    }

    private static Map<String, Set<String>> callsByMethod(String text) {
        Map<String, Set<String>> calls = new LinkedHashMap<>();
        Matcher methods = METHOD.matcher(text);
        while (methods.find()) {
            String name = methods.group(1);
            String body = methods.group(3);
            holds("no two methods named " + name, !calls.containsKey(name));
            holds("rule 4: no new in " + name, !body.contains("new "));
            holds("rule 10: at most seven parameters in " + name, methods.group(2).split(",").length <= 7);
            holds("rule 10: some sixty lines in " + name, body.split("\n").length <= 60);
            Set<String> called = new TreeSet<>();
            Matcher call = CALL.matcher(body);
            while (call.find()) {
                if (!isKeyword(call.group(1))) {
                    called.add(call.group(1));
                    holds("rule 10: no call in the arguments of " + call.group(1) + " in " + name,
                        !hasCall(argumentsAt(body, call.end())));
                }
            }
            calls.put(name, called);
        }
        return calls;
    }

    private static boolean isKeyword(String name) {
        return Arrays.asList("if", "for", "while", "switch", "return").contains(name);
    }

    private static String argumentsAt(String body, int start) {
        int open = 1;
        int end = start;
        while (open > 0) {
            char c = body.charAt(end++);
            open += c == '(' ? 1 : c == ')' ? -1 : 0;
        }
        return body.substring(start, end - 1);
    }

    private static boolean hasCall(String arguments) {
        return CALL.matcher(arguments).find();
    }

    /** How many methods stand on each other at most; far too many if they go round in a circle. */
    private static int depthOf(String name, Map<String, Set<String>> calls, int above) {
        if (above > 50) {
            return 50;
        }
        int deepest = 0;
        for (String called : calls.getOrDefault(name, Set.of())) {
            deepest = Math.max(deepest, depthOf(called, calls, above + 1));
        }
        return deepest + 1;
    }

    public static void main(String[] args) throws Exception {
        face();
        fields();
        String text = Files.readString(Path.of(SOURCE))
            .replaceAll("(?s)/\\*.*?\\*/", "").replaceAll("//[^\n]*", "");
        words(text);
        loops(text);
        Map<String, Set<String>> calls = callsByMethod(text);
        holds("the scan finds the methods", calls.size() == SmallBoard.class.getDeclaredMethods().length + 1);
        for (String name : calls.keySet()) {
            int depth = depthOf(name, calls, 0);
            holds("rules 8 and 10: calls six deep at most, not " + depth + " from " + name, depth <= 6);
        }
        System.out.println(wrong == 0 ? "all holds" : wrong + " things do not hold");
        if (wrong != 0) {
            System.exit(1);
        }
    }
}
