import java.io.IOException;
import java.lang.reflect.Method;
import java.lang.reflect.Modifier;
import java.nio.file.Files;
import java.nio.file.Path;
import java.util.List;
import java.util.regex.Matcher;
import java.util.regex.Pattern;

/** The example of README.md answers what its comments say, and its table names every call of the face. */
public final class ReadmeTest {
    private static final Path README = Path.of("README.md");
    private static final Pattern MADE = Pattern.compile("^TrustLedger ledger = new TrustLedger\\((\\w+)\\);.*");
    private static final Pattern CALL = Pattern.compile("^ledger\\.(\\w+)\\((.*?)\\); +// (true|false|-?\\d+)(:.*)?$");
    private static final Pattern ROW = Pattern.compile("^\\| `(\\w+)\\((.*?)\\)` \\|.*");

    public static void main(String[] args) throws IOException, ReflectiveOperationException {
        List<String> lines = Files.readAllLines(README);
        exampleAnswersAsItSays(lines);
        tableNamesEveryCall(lines);
        Check.end();
    }

    private static void exampleAnswersAsItSays(List<String> lines) throws ReflectiveOperationException {
        int begin = lines.indexOf("```java") + 1;
        Matcher made = MADE.matcher(lines.get(begin));
        Check.due("the example begins with a new object", made.matches(), true);
        TrustLedger ledger = new TrustLedger(number(made.group(1)));
        for (int i = begin + 1; !lines.get(i).equals("```"); i++) {
            Matcher call = CALL.matcher(lines.get(i));
            boolean readable = call.matches();
            Check.due("a call with its answer: " + lines.get(i), readable, true);
            if (readable) {
                Check.due(lines.get(i), answerOf(ledger, call.group(1), call.group(2)), answer(call.group(3)));
            }
        }
    }

    private static long answerOf(TrustLedger ledger, String name, String written) throws ReflectiveOperationException {
        String[] parts = written.isEmpty() ? new String[0] : written.split(", ");
        Object[] numbers = new Object[parts.length];
        for (int i = 0; i < parts.length; i++) {
            numbers[i] = number(parts[i]);
        }
        return answer(String.valueOf(methodNamed(name).invoke(ledger, numbers)));
    }

    private static Method methodNamed(String name) throws NoSuchMethodException {
        for (Method m : TrustLedger.class.getMethods()) {
            if (m.getName().equals(name) && m.getDeclaringClass() == TrustLedger.class) {
                return m;
            }
        }
        throw new NoSuchMethodException(name);
    }

    private static long answer(String written) {
        if (written.equals("true") || written.equals("false")) {
            return written.equals("true") ? 1 : 0;
        }
        return Long.parseLong(written);
    }

    private static int number(String written) {
        return written.startsWith("0b") ? Integer.parseInt(written.substring(2), 2) : Integer.parseInt(written);
    }

    private static void tableNamesEveryCall(List<String> lines) {
        for (Method m : TrustLedger.class.getDeclaredMethods()) {
            if (Modifier.isPublic(m.getModifiers())) {
                Check.due("rows for " + m, rowsFor(m, lines), 1);
            }
        }
    }

    private static int rowsFor(Method m, List<String> lines) {
        int rows = 0;
        for (String line : lines) {
            Matcher row = ROW.matcher(line);
            if (row.matches() && row.group(1).equals(m.getName())) {
                int named = row.group(2).isEmpty() ? 0 : row.group(2).split(", ").length;
                rows += named == m.getParameterCount() ? 1 : 0;
            }
        }
        return rows;
    }
}
