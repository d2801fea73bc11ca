import java.io.IOException;
import java.lang.reflect.Constructor;
import java.lang.reflect.Field;
import java.lang.reflect.Method;
import java.lang.reflect.Modifier;
import java.nio.file.Files;
import java.nio.file.Path;
import java.util.Arrays;
import java.util.List;
import java.util.TreeSet;
import java.util.regex.Pattern;

/** The public face, and what reflection and the source's text can tell of the language's rules. */
public final class FormTest {
    private static final String[] FACE = {
        "trust(IIIII)boolean", "submit(IIIIIII)boolean", "propose(II)boolean", "timeout(I)boolean",
        "post(II)int", "forge(IIIII)int", "deliver(II)boolean", "envelopes()int", "state(II)int",
        "statements(IIII)int", "value(II)int", "header(I)int", "balance(III)int", "offer(II)int",
    };

    private static final Path SOURCE = Path.of("src/main/java/TrustLedger.java");
    private static final int MOST_LINES = 60;
    private static final int MOST_PARAMETERS = 7;

    public static void main(String[] args) throws IOException {
        Class<?> c = TrustLedger.class;
        Check.due("the class is public and final", c.getModifiers() & (Modifier.PUBLIC | Modifier.FINAL),
            Modifier.PUBLIC | Modifier.FINAL);
        constructorIsPublic(c);
        methodsAreTheFace(c);
        fieldsArePrivateButNone(c);
        Class<?>[] inside = c.getDeclaredClasses();
        Check.due("at most twelve classes", inside.length + 1 <= 12, true);
        for (Class<?> i : inside) {
            Check.due(i + " is static", Modifier.isStatic(i.getModifiers()), true);
            Check.due(i + " is not public", Modifier.isPublic(i.getModifiers()) || Modifier.isProtected(i.getModifiers()), false);
            staticFieldsAreFinal(i);
            fewParameters(i);
        }
        fewParameters(c);
        List<String> lines = Files.readAllLines(SOURCE);
        nothingForbidden(lines);
        libraryIsAsListed(lines);
        loopsAreCounted(lines);
        methodsAreShort(lines);
        Check.end();
    }

    /** Rules 2 to 7, 10 and 13: words that the program has no need of. */
    private static void nothingForbidden(List<String> lines) {
        Pattern forbidden = Pattern.compile("\\b(package|import|throw|throws|try|catch|finally|synchronized|volatile|assert"
            + "|double|float|equals|hashCode|toString|System|Thread|\\w+Exact)\\b|->|::|@|static \\{|\\[\\]\\[\\]\\[\\]");
        for (int i = 0; i < lines.size(); i++) {
            Check.due("line " + (i + 1) + ": " + lines.get(i), forbidden.matcher(lines.get(i)).find(), false);
        }
    }

    /** Rules 3 and 4: of the library's classes the program needs two functions, and both are on the list. */
    private static void libraryIsAsListed(List<String> lines) {
        Pattern library = Pattern.compile("\\b(String|StringBuilder|Integer|Long|Math|List|ArrayList|Arrays|Object|Iterator"
            + "|Iterable|Comparable|Boolean|Character|Short|Byte|Class|Runtime|Process|java|javax)\\b");
        Pattern listed = Pattern.compile("\\b(Integer\\.bitCount|Math\\.min)\\(");
        for (int i = 0; i < lines.size(); i++) {
            String rest = listed.matcher(lines.get(i)).replaceAll("(");
            Check.due("line " + (i + 1) + " uses what is listed: " + lines.get(i), library.matcher(rest).find(), false);
        }
    }

    /** Rule 9: each loop counts up to a bound or down to one. */
    private static void loopsAreCounted(List<String> lines) {
        Pattern loop = Pattern.compile("\\b(for|while|do)\\b.*\\{$");
        Pattern counted = Pattern.compile("for \\(int (\\w+) = [^;]+; \\1 (<|<=|>=) [^;]+; \\1(\\+\\+|--)\\) \\{$");
        for (int i = 0; i < lines.size(); i++) {
            boolean isLoop = loop.matcher(lines.get(i)).find();
            Check.due("line " + (i + 1) + ": " + lines.get(i), isLoop && !counted.matcher(lines.get(i)).find(), false);
        }
    }

    /** Rule 11: from the line that opens a method to the one with the same indentation that closes it. */
    private static void methodsAreShort(List<String> lines) {
        Pattern opening = Pattern.compile("^( +)[\\w\\[\\] ]+\\([^;]*\\) \\{$");
        for (int i = 0; i < lines.size(); i++) {
            var found = opening.matcher(lines.get(i));
            int end = i;
            while (found.find(0) && !lines.get(end).equals(found.group(1) + "}")) {
                end++;
            }
            Check.due("line " + (i + 1) + " opens what is short", end - i < MOST_LINES, true);
        }
    }

    private static void fewParameters(Class<?> c) {
        for (Method m : c.getDeclaredMethods()) {
            Check.due(m + " has few parameters", m.getParameterCount() <= MOST_PARAMETERS, true);
        }
        for (Constructor<?> made : c.getDeclaredConstructors()) {
            Check.due(made + " has few parameters", made.getParameterCount() <= MOST_PARAMETERS, true);
        }
    }

    private static void constructorIsPublic(Class<?> c) {
        Constructor<?>[] made = c.getDeclaredConstructors();
        Check.due("one constructor", made.length, 1);
        Check.due("it is public", Modifier.isPublic(made[0].getModifiers()), true);
        Check.due("it takes an int", Arrays.equals(made[0].getParameterTypes(), new Class<?>[] {int.class}), true);
    }

    private static void methodsAreTheFace(Class<?> c) {
        TreeSet<String> open = new TreeSet<>();
        TreeSet<String> names = new TreeSet<>();
        for (Method m : c.getDeclaredMethods()) {
            if (!Modifier.isPrivate(m.getModifiers())) {
                open.add(m.getName() + "(" + "I".repeat(m.getParameterCount()) + ")" + m.getReturnType());
                names.add(m.getName());
                Check.due(m + " is public", Modifier.isPublic(m.getModifiers()) && !Modifier.isStatic(m.getModifiers()), true);
            }
        }
        TreeSet<String> face = new TreeSet<>(Arrays.asList(FACE));
        if (!open.equals(face)) {
            System.out.println("the methods are " + open + ", due are " + face);
        }
        Check.due("the methods are those of the face", open.equals(face), true);
        for (Method m : c.getDeclaredMethods()) {
            boolean hidden = Modifier.isPrivate(m.getModifiers());
            Check.due(m + " has a name of its own", hidden && names.contains(m.getName()), false);
        }
    }

    private static void fieldsArePrivateButNone(Class<?> c) {
        staticFieldsAreFinal(c);
        for (Field f : c.getDeclaredFields()) {
            boolean none = f.getName().equals("NONE");
            Check.due(f + " is private, or NONE and public", none ? Modifier.isPublic(f.getModifiers())
                : Modifier.isPrivate(f.getModifiers()), true);
        }
    }

    private static void staticFieldsAreFinal(Class<?> c) {
        int own = 0;
        for (Field f : c.getDeclaredFields()) {
            boolean constant = Modifier.isStatic(f.getModifiers());
            Check.due(f + " is final if static", constant && !Modifier.isFinal(f.getModifiers()), false);
            own += constant ? 0 : 1;
        }
        Check.due(c + " has at most twenty fields", own <= 20, true);
    }
}
