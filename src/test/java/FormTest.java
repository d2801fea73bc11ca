import java.lang.reflect.Constructor;
import java.lang.reflect.Field;
import java.lang.reflect.Method;
import java.lang.reflect.Modifier;
import java.util.Arrays;
import java.util.TreeSet;

/** The public face and what reflection can tell of the language's rules 1, 2, 5 and 11. */
public final class FormTest {
    private static final String[] FACE = {
        "trust(IIIII)boolean", "submit(IIIIIII)boolean", "propose(II)boolean", "timeout(I)boolean",
        "post(II)int", "forge(IIIII)int", "deliver(II)boolean", "envelopes()int", "state(II)int",
        "statements(IIII)int", "value(II)int", "header(I)int", "balance(III)int", "offer(II)int",
    };

    public static void main(String[] args) {
        Class<?> c = TrustLedger.class;
        Check.due("the class is public and final", c.getModifiers() & (Modifier.PUBLIC | Modifier.FINAL),
            Modifier.PUBLIC | Modifier.FINAL);
        constructorIsPublic(c);
        methodsAreTheFace(c);
        fieldsArePrivateButNone(c);
        Class<?>[] inside = c.getDeclaredClasses();
        Check.due("at most twelve classes", inside.length + 1 <= 12, true);
        for (Class<?> i : inside) {
            Check.due(i + " is static", Modifier.isStatic(i.getModifiers()), true);
            Check.due(i + " is not public", Modifier.isPublic(i.getModifiers()) || Modifier.isProtected(i.getModifiers()), false);
            staticFieldsAreFinal(i);
        }
        Check.end();
    }

    private static void constructorIsPublic(Class<?> c) {
        Constructor<?>[] made = c.getDeclaredConstructors();
        Check.due("one constructor", made.length, 1);
        Check.due("it is public", Modifier.isPublic(made[0].getModifiers()), true);
        Check.due("it takes an int", Arrays.equals(made[0].getParameterTypes(), new Class<?>[] {int.class}), true);
    }

    private static void methodsAreTheFace(Class<?> c) {
        TreeSet<String> open = new TreeSet<>();
        TreeSet<String> names = new TreeSet<>();
        for (Method m : c.getDeclaredMethods()) {
            if (!Modifier.isPrivate(m.getModifiers())) {
                open.add(m.getName() + "(" + "I".repeat(m.getParameterCount()) + ")" + m.getReturnType());
                names.add(m.getName());
                Check.due(m + " is public", Modifier.isPublic(m.getModifiers()) && !Modifier.isStatic(m.getModifiers()), true);
            }
        }
        TreeSet<String> face = new TreeSet<>(Arrays.asList(FACE));
        if (!open.equals(face)) {
            System.out.println("the methods are " + open + ", due are " + face);
        }
        Check.due("the methods are those of the face", open.equals(face), true);
        for (Method m : c.getDeclaredMethods()) {
            boolean hidden = Modifier.isPrivate(m.getModifiers());
            Check.due(m + " has a name of its own", hidden && names.contains(m.getName()), false);
        }
    }

    private static void fieldsArePrivateButNone(Class<?> c) {
        staticFieldsAreFinal(c);
        for (Field f : c.getDeclaredFields()) {
            boolean none = f.getName().equals("NONE");
            Check.due(f + " is private, or NONE and public", none ? Modifier.isPublic(f.getModifiers())
                : Modifier.isPrivate(f.getModifiers()), true);
        }
    }

    private static void staticFieldsAreFinal(Class<?> c) {
        int own = 0;
        for (Field f : c.getDeclaredFields()) {
            boolean constant = Modifier.isStatic(f.getModifiers());
            Check.due(f + " is final if static", constant && !Modifier.isFinal(f.getModifiers()), false);
            own += constant ? 0 : 1;
        }
        Check.due(c + " has at most twenty fields", own <= 20, true);
    }
}
