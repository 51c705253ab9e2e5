import java.io.IOException;
import java.lang.reflect.Field;
import java.lang.reflect.InvocationTargetException;
import java.lang.reflect.Method;
import java.lang.reflect.Modifier;
import java.nio.file.Files;
import java.nio.file.Path;
import java.util.ArrayList;
import java.util.Arrays;
import java.util.List;
import java.util.Set;
import java.util.TreeSet;
import java.util.regex.Matcher;
import java.util.regex.Pattern;
import java.util.stream.Collectors;

/** README.md: the calls that it shows answer as it says, and its tables tell of the whole face. */
public final class ReadmeTest {
    private static final Path README = Path.of("README.md");
    private static final String NEW_OBJECT = "SortedBlocks x = new SortedBlocks();";
    /** A call, and behind // what it answers, up to a colon if there is one. */
    private static final Pattern CALL = Pattern.compile("x\\.(\\w+)\\((.*?)\\); +// ([^:]+)(: .+)?");
    private static final Pattern TEST_NAME = Pattern.compile("`(\\w+Test)`");

    public static void main(String[] args) {
        Due.runAll(ReadmeTest.class);
    }

    static void theCallsOfTheExamplesAnswerAsItSays() throws IOException {
        SortedBlocks x = null;
        for (String line : exampleLines()) {
            if (line.equals(NEW_OBJECT)) {
                x = new SortedBlocks();
                continue;
            }
            Matcher call = CALL.matcher(line);
            boolean isCall = call.matches();
            Due.same("a call with its answer: " + line, isCall && x != null, true);
            if (isCall && x != null) {
                Due.same(line, answer(x, call.group(1), call.group(2)), due(call.group(3)));
            }
        }
    }

    static void eachMethodIsShown() throws IOException {
        Set<String> shown = new TreeSet<>();
        for (String line : exampleLines()) {
            Matcher call = CALL.matcher(line);
            if (call.matches()) {
                shown.add(call.group(1));
            }
        }
        Set<String> names = face().stream().map(Method::getName).collect(Collectors.toCollection(TreeSet::new));
        Due.same("methods in the examples", shown, names);
    }

    static void theTableOfCallsHasEachMethodAndWhatItThrows() throws IOException {
        Set<String> told = new TreeSet<>();
        for (String[] cells : tableRows()) {
            if (cells[0].endsWith(")`")) {
                // the names of parameters are unknown to reflection
                String call = cells[0].replace("`", "").replaceAll("(int|long) \\w+([,)])", "$1$2");
                told.add(call + " throws " + exceptionsIn(cells[2]));
            }
        }
        Set<String> methods = new TreeSet<>();
        for (Method method : face()) {
            methods.add(method.getReturnType() + " " + method.getName() + "("
                    + names(method.getParameterTypes()) + ") throws " + names(method.getExceptionTypes()));
        }
        Due.same("table of calls", told, methods);
    }

    static void theTableOfFaultsHasEachFault() throws IOException, IllegalAccessException {
        Set<String> told = new TreeSet<>();
        for (String[] cells : tableRows()) {
            if (cells[1].startsWith("-") && !cells[1].startsWith("--")) {
                told.add(cells[0] + " " + cells[1]);
            }
        }
        Set<String> faults = new TreeSet<>();
        for (Field field : SortedBlocks.class.getFields()) {
            if (!field.getName().equals("NONE")) {
                faults.add("`" + field.getName() + "` " + field.getInt(null));
            }
        }
        Due.same("table of faults", told, faults);
        Due.same("NONE", Files.readString(README).contains("`NONE` is " + SortedBlocks.NONE + "."), true);
    }

    static void theTestsThatItNamesAreThere() throws IOException {
        Matcher name = TEST_NAME.matcher(Files.readString(README));
        while (name.find()) {
            Path test = Path.of("src", "test", "java", name.group(1) + ".java");
            Due.same(test + " is there", Files.exists(test), true);
        }
    }

    /** The lines between ```java and ``` that are not empty. */
    private static List<String> exampleLines() throws IOException {
        List<String> lines = new ArrayList<>();
        boolean inside = false;
        for (String line : Files.readAllLines(README)) {
            if (line.startsWith("```")) {
                inside = line.equals("```java");
            } else if (inside && !line.isBlank()) {
                lines.add(line);
            }
        }
        Due.same("there are examples", lines.isEmpty(), false);
        return lines;
    }

    /** The cells of each row of all tables, which have three columns. */
    private static List<String[]> tableRows() throws IOException {
        List<String[]> rows = new ArrayList<>();
        for (String line : Files.readAllLines(README)) {
            if (line.startsWith("| ")) {
                String[] cells = line.substring(2).split(" \\| ?");
                Due.same("cells of " + line, cells.length, 3);
                rows.add(cells);
            }
        }
        return rows;
    }

    private static List<Method> face() {
        return Arrays.stream(SortedBlocks.class.getDeclaredMethods())
                .filter(method -> Modifier.isPublic(method.getModifiers())).collect(Collectors.toList());
    }

    private static String names(Class<?>[] types) {
        return Arrays.stream(types).map(Class::getSimpleName).collect(Collectors.joining(", "));
    }

    private static String exceptionsIn(String cell) {
        return Pattern.compile("\\w+Exception").matcher(cell).results().map(found -> found.group())
                .collect(Collectors.joining(", "));
    }

    /** What README.md says, with the numbers for the names of constants. */
    private static String due(String told) {
        String name = told.replace("SortedBlocks.", "");
        try {
            return name.equals(told) ? told : "" + SortedBlocks.class.getField(name).getInt(null);
        } catch (NoSuchFieldException | IllegalAccessException e) {
            return "no constant " + told;
        }
    }

    private static String answer(SortedBlocks x, String name, String arguments) {
        for (Method method : face()) {
            if (method.getName().equals(name)) {
                return answer(x, method, values(method, arguments));
            }
        }
        return "no method " + name;
    }

    private static String answer(SortedBlocks x, Method method, Object[] values) {
        try {
            Object answer = method.invoke(x, values);
            return method.getReturnType() == void.class ? "nothing" : answer.toString();
        } catch (InvocationTargetException e) {
            return "throws " + e.getCause().getClass().getSimpleName();
        } catch (IllegalAccessException | IllegalArgumentException e) {
            return "cannot be called";
        }
    }

    private static Object[] values(Method method, String arguments) {
        String[] texts = arguments.isEmpty() ? new String[0] : arguments.split(", ");
        Object[] values = new Object[texts.length];
        Class<?>[] types = method.getParameterTypes();
        for (int i = 0; i < texts.length; i++) {
            long value = Long.decode(texts[i].replaceAll("L$", ""));
            boolean isLong = i < types.length && types[i] == long.class;
            values[i] = isLong ? (Object) value : (Object) (int) value;
        }
        return values;
    }
}
