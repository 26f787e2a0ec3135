import java.lang.reflect.Constructor;
import java.lang.reflect.Field;
import java.lang.reflect.Method;
import java.lang.reflect.Modifier;
import java.util.List;
import java.util.NoSuchElementException;
import java.util.Set;
import java.util.TreeSet;

/** The class shows the document's face and no other member. */
public final class FaceTest {
    private static final Set<String> FACE = Set.of(
        "NONE int",
        "CutTrees",
        "piece int int int int int",
        "drop int",
        "look int int int",
        "build int int int",
        "count int int",
        "knot int int int",
        "part long int int",
        "where int int int",
        "order int int int",
        "told int int",
        "sees int int int int int",
        "ray int int int int int",
        "met int int int",
        "least int",
        "sum int");

    private static final Set<String> THROWING = Set.of("look", "knot", "part");

    private static final List<Class<?>> THROWN = List.of(IndexOutOfBoundsException.class, NoSuchElementException.class);

    public static void main(String[] args) {
        Set<String> seen = new TreeSet<>();
        for (Field field : CutTrees.class.getDeclaredFields()) {
            if (!Modifier.isPrivate(field.getModifiers())) {
                seen.add(field.getName() + " " + field.getType());
            }
            if (Modifier.isStatic(field.getModifiers())) {
                Due.is(field.getName() + " is final", Modifier.isFinal(field.getModifiers()) ? 1 : 0, 1);
            }
        }
        for (Constructor<?> made : CutTrees.class.getDeclaredConstructors()) {
            seen.add(made.getName() + types(made.getParameterTypes()));
            Due.is(made + " is public", Modifier.isPublic(made.getModifiers()) ? 1 : 0, 1);
        }
        for (Method method : CutTrees.class.getDeclaredMethods()) {
            if (!Modifier.isPrivate(method.getModifiers())) {
                seen.add(method.getName() + " " + method.getReturnType() + types(method.getParameterTypes()));
                Due.is(method + " is public", Modifier.isPublic(method.getModifiers()) ? 1 : 0, 1);
                Due.is(method + " is of an object", Modifier.isStatic(method.getModifiers()) ? 1 : 0, 0);
                List<Class<?>> thrown = THROWING.contains(method.getName()) ? THROWN : List.of();
                Due.is(method + " throws its own", List.of(method.getExceptionTypes()).equals(thrown) ? 1 : 0, 1);
            }
        }
        System.out.println(seen);
        Due.is("NONE", CutTrees.NONE, -1);
        Due.is("the face is the document's", seen.equals(FACE) ? 1 : 0, 1);
        Due.is("the class is final", Modifier.isFinal(CutTrees.class.getModifiers()) ? 1 : 0, 1);
        for (Class<?> inside : CutTrees.class.getDeclaredClasses()) {
            int is = inside.getModifiers();
            Due.is(inside + " is static", Modifier.isStatic(is) ? 1 : 0, 1);
            Due.is(inside + " is hidden", Modifier.isPublic(is) || Modifier.isProtected(is) ? 1 : 0, 0);
            for (Method method : inside.getDeclaredMethods()) {
                boolean taken = FACE.stream().anyMatch(f -> f.startsWith(method.getName() + " "));
                Due.is(method + " has a name of its own", taken ? 1 : 0, 0);
            }
        }
        Due.end();
    }

    private static String types(Class<?>[] types) {
        StringBuilder out = new StringBuilder();
        for (Class<?> type : types) {
            out.append(' ').append(type);
        }
        return out.toString();
    }
}
