import java.io.IOException;
import java.lang.reflect.Method;
import java.lang.reflect.Modifier;
import java.nio.file.Files;
import java.nio.file.Path;
import java.util.ArrayList;
import java.util.List;
import java.util.TreeSet;
import java.util.regex.Matcher;
import java.util.regex.Pattern;

/** What README.md says of the calls is true; it is read in the project's directory. */
public final class ReadmeTest {
    private static final Pattern MAKING =
            Pattern.compile("FountainDecoder decoder = new FountainDecoder\\((\\d+)\\);");
    private static final Pattern CALL =
            Pattern.compile("decoder\\.(\\w+)\\(([^)]*)\\); +// (-?\\w+)(:.*)?");
    private static final Pattern TABLE_ROW = Pattern.compile("\\| `(\\w+)\\(([^)]*)\\)` \\|.*");

    private static int wrong = 0;

    private static void due(String what, Object got, Object want) {
        if (!got.equals(want)) {
            wrong++;
            System.out.println(what + " is " + got + ", due is " + want);
        }
    }

    private static int number(String text) {
        return text.startsWith("0b") ? Integer.parseInt(text.substring(2), 2) : Integer.parseInt(text);
    }

    private static String withCount(String name, int parameters) {
        return name + " with " + parameters + " parameters";
    }

    private static List<String> wordsOf(String arguments) {
        return arguments.isEmpty() ? List.of() : List.of(arguments.split(", "));
    }

    private static List<String> example(List<String> lines) {
        int start = lines.indexOf("```java");
        List<String> rest = lines.subList(start + 1, lines.size());
        return rest.subList(0, rest.indexOf("```"));
    }

    private static int answer(FountainDecoder decoder, String name, List<String> arguments)
            throws ReflectiveOperationException {
        Class<?>[] types = new Class<?>[arguments.size()];
        Object[] numbers = new Object[arguments.size()];
        for (int i = 0; i < types.length; i++) {
            types[i] = int.class;
            numbers[i] = number(arguments.get(i));
        }
        return (Integer) FountainDecoder.class.getMethod(name, types).invoke(decoder, numbers);
    }

    private static void testExample(List<String> lines) throws ReflectiveOperationException {
        List<String> example = example(lines);
        Matcher making = MAKING.matcher(example.get(0));
        due("'" + example.get(0) + "' makes an object: this", making.matches(), true);
        FountainDecoder decoder = new FountainDecoder(number(making.group(1)));
        for (String line : example.subList(1, example.size())) {
            Matcher call = CALL.matcher(line);
            if (call.matches()) {
                int got = answer(decoder, call.group(1), wordsOf(call.group(2)));
                due("the answer of '" + line + "'", number(call.group(3)), got);
            } else {
                due("'" + line + "' has a call and its answer: this", false, true);
            }
        }
    }

    private static void testTable(List<String> lines) {
        List<String> rows = new ArrayList<>();
        for (String line : lines) {
            Matcher row = TABLE_ROW.matcher(line);
            if (row.matches()) {
                rows.add(withCount(row.group(1), wordsOf(row.group(2)).size()));
            }
        }
        TreeSet<String> methods = new TreeSet<>();
        for (Method method : FountainDecoder.class.getDeclaredMethods()) {
            if (Modifier.isPublic(method.getModifiers())) {
                methods.add(withCount(method.getName(), method.getParameterCount()));
            }
        }
        due("the table's list of methods", new TreeSet<>(rows), methods);
        due("the number of the table's rows", rows.size(), methods.size());
    }

    public static void main(String[] args) throws IOException, ReflectiveOperationException {
        List<String> lines = Files.readAllLines(Path.of("README.md"));
        testExample(lines);
        testTable(lines);
        System.out.println(wrong == 0 ? "README.md is true" : wrong + " faults in README.md");
        if (wrong != 0) {
            System.exit(1);
        }
    }
}
