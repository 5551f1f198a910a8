import java.lang.reflect.Method;
import java.nio.file.Files;
import java.nio.file.Path;
import java.util.Arrays;
import java.util.Set;
import java.util.TreeSet;
import java.util.regex.Matcher;
import java.util.regex.Pattern;

/** The examples in README.md: each row is a call, and behind it the answer that is due. */
public final class ReadmeTest {
    private static final String NEW_OBJECT = "HeapGames x = new HeapGames();";
    private static final Pattern ROW = Pattern.compile("x\\.(\\w+)\\(([-0-9, ]+)\\); +// (-?[0-9]+)\\b.*");

    private ReadmeTest() {
    }

    public static void main(String[] args) throws ReflectiveOperationException, java.io.IOException {
        Set<String> called = new TreeSet<>();
        HeapGames x = null;
        boolean inExample = false;
        for (String line : Files.readAllLines(Path.of("README.md"))) {
            if (line.startsWith("```")) {
                inExample = line.equals("```java");
            } else if (inExample && line.equals(NEW_OBJECT)) {
                x = new HeapGames();
            } else if (inExample) {
                called.add(look(x, line));
            }
        }
        for (Method method : HeapGames.class.getMethods()) {
            if (method.getDeclaringClass() == HeapGames.class) {
                Check.due("an example of " + method.getName(), called.contains(method.getName()) ? 1 : 0, 1);
            }
        }
        Check.finish();
    }

    /** Makes the call that the row tells, and answers the method's name. */
    private static String look(HeapGames x, String line) throws ReflectiveOperationException {
        Matcher row = ROW.matcher(line);
        boolean isRow = row.matches();
        Check.due("\"" + line + "\" is a call with its answer", isRow ? 1 : 0, 1);
        if (!isRow) {
            return "";
        }
        Integer[] arguments = Arrays.stream(row.group(2).split(", ")).map(Integer::valueOf).toArray(Integer[]::new);
        Class<?>[] types = new Class<?>[arguments.length];
        Arrays.fill(types, int.class);
        Method method = HeapGames.class.getMethod(row.group(1), types);
        int answer = (Integer) method.invoke(x, (Object[]) arguments);
        Check.due("README.md: " + line, answer, Integer.parseInt(row.group(3)));
        return row.group(1);
    }
}
