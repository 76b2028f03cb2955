import java.lang.reflect.Constructor;
import java.lang.reflect.Field;
import java.lang.reflect.Method;
import java.lang.reflect.Modifier;
import java.util.Arrays;
import java.util.Set;
import java.util.TreeSet;

/** The public face of the document, and those rules of LANGUAGE.md that reflection can see. */
public final class FaceTest {
    private static final Set<String> METHODS = new TreeSet<>(Arrays.asList(
        "int add[int, int]", "int drop[int]", "boolean lean[int]", "int leastTop[]", "int leastBottom[]",
        "int withSlope[int, int]", "boolean bestSlope[int, int]", "boolean bestPair[int, int]",
        "int throughTop[int]", "int throughBottom[int]", "int points[]"));

    public static void main(String[] args) {
        constants();
        methods();
        fields();
        Check.end();
    }

    private static void constants() {
        Check.same("BAD", LeastDeviations.BAD, -1);
        Check.same("FULL", LeastDeviations.FULL, -2);
    }

    private static void methods() {
        Class<?> c = LeastDeviations.class;
        Check.same("public final class", c.getModifiers() == (Modifier.PUBLIC | Modifier.FINAL), true);
        Check.same("nested classes", c.getDeclaredClasses().length, 0);
        Constructor<?>[] made = c.getDeclaredConstructors();
        Check.same("constructors", made.length, 1);
        Check.same("constructor is public without parameters",
            Modifier.isPublic(made[0].getModifiers()) && made[0].getParameterCount() == 0, true);
        Set<String> open = new TreeSet<>();
        Set<String> openNames = new TreeSet<>();
        for (Method m : c.getDeclaredMethods()) {
            if (!Modifier.isPrivate(m.getModifiers())) {
                Check.same(m + " is plainly public", m.getModifiers(), Modifier.PUBLIC);
                String[] types = Arrays.stream(m.getParameterTypes()).map(Class::getName).toArray(String[]::new);
                open.add(m.getReturnType().getName() + " " + m.getName() + Arrays.toString(types));
                openNames.add(m.getName());
            }
        }
        Check.same("public methods " + open, open.equals(METHODS), true);
        for (Method m : c.getDeclaredMethods()) {
            Check.same(m + " has at most seven parameters", m.getParameterCount() <= 7, true);
            if (Modifier.isPrivate(m.getModifiers())) {
                Check.same(m + " bears a public name", openNames.contains(m.getName()), false);
            }
        }
    }

    private static void fields() {
        for (Field f : LeastDeviations.class.getDeclaredFields()) {
            int has = f.getModifiers();
            boolean named = f.getName().equals("BAD") || f.getName().equals("FULL");
            Check.same(f + " is public", Modifier.isPublic(has), named);
            Check.same(f + " is private", Modifier.isPrivate(has), !named);
            Class<?> type = f.getType();
            if (Modifier.isStatic(has)) {
                Check.same(f + " is a constant", Modifier.isFinal(has) && (type == int.class || type == long.class), true);
            } else {
                Class<?> kept = type.isArray() ? type.getComponentType() : type;
                Check.same(f + " is of a plain type",
                    kept.isPrimitive() && kept != float.class && kept != double.class, true);
            }
        }
    }
}
