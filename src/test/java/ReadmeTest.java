import java.lang.reflect.Method;
import java.lang.reflect.Modifier;
import java.nio.file.Files;
import java.nio.file.Path;
import java.util.List;
import java.util.Set;
import java.util.TreeSet;
import java.util.regex.Matcher;
import java.util.regex.Pattern;

/** Runs the example of README.md, and looks whether its table has every call and no other. */
public final class ReadmeTest extends Checks {
    private static final Pattern CALL_OF_EXAMPLE = Pattern.compile("board\\.(\\w+)\\((.*)\\);\\s+// (-?\\d+): .*");
    private static final Pattern CALL_OF_TABLE = Pattern.compile("\\| `(\\w+)\\((.*?)\\)` \\|.*");
    private static final String MAKES_THE_BOARD = "SmallBoard board = new SmallBoard();";

    private static int[] numbersIn(String arguments) {
        if (arguments.isEmpty()) {
            return new int[0];
        }
        String[] words = arguments.split(", ");
        int[] numbers = new int[words.length];
        for (int i = 0; i < words.length; i++) {
            numbers[i] = Integer.parseInt(words[i]);
        }
        return numbers;
    }

    private static int call(SmallBoard x, String name, int[] numbers) throws Exception {
        Class<?> number = int.class;
        Class<SmallBoard> face = SmallBoard.class;
        switch (numbers.length) {
            case 0:
                return (int) face.getMethod(name).invoke(x);
            case 1:
                return (int) face.getMethod(name, number).invoke(x, numbers[0]);
            default:
                return (int) face.getMethod(name, number, number).invoke(x, numbers[0], numbers[1]);
        }
    }

    private static void example(List<String> lines) throws Exception {
        int at = lines.indexOf("```java") + 1;
        due("the example makes a board", lines.get(at).equals(MAKES_THE_BOARD));
        SmallBoard x = new SmallBoard();
        int calls = 0;
        for (at++; !lines.get(at).equals("```"); at++) {
            Matcher row = CALL_OF_EXAMPLE.matcher(lines.get(at));
            boolean isCall = row.matches();
            due("a call and its answer: " + lines.get(at), isCall);
            if (isCall) {
                calls++;
                due(lines.get(at), call(x, row.group(1), numbersIn(row.group(2))), Integer.parseInt(row.group(3)));
            }
        }
        due("the example has calls", calls > 0);
    }

    private static void table(List<String> lines) {
        Set<String> told = new TreeSet<>();
        for (String line : lines) {
            Matcher row = CALL_OF_TABLE.matcher(line);
            if (row.matches()) {
                int parameters = row.group(2).isEmpty() ? 0 : row.group(2).split(", ").length;
                due("told once: " + line, told.add(row.group(1) + " of " + parameters));
            }
        }
        Set<String> face = new TreeSet<>();
        for (Method method : SmallBoard.class.getDeclaredMethods()) {
            if (Modifier.isPublic(method.getModifiers())) {
                face.add(method.getName() + " of " + method.getParameterCount());
            }
        }
        due("the table tells " + told + ", the face is " + face, told.equals(face));
    }

    public static void main(String[] args) throws Exception {
        List<String> lines = Files.readAllLines(Path.of("README.md"));
        example(lines);
        table(lines);
        end();
    }
}
