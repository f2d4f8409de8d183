import java.lang.reflect.Constructor;
import java.lang.reflect.Field;
import java.lang.reflect.Method;
import java.lang.reflect.Modifier;
import java.util.Set;
import java.util.TreeSet;

/** The public face: just what the document writes down, and nothing else that can be seen from outside. */
public final class FaceTest {
    private static final String INDEX = " throws IndexOutOfBoundsException";
    private static final String ARGUMENT = " throws IllegalArgumentException";
    private static final String STATE = " throws IllegalStateException";
    private static final String[] FACE = {
        "int make(int, int, int)" + ARGUMENT, "int lay(int, int)" + INDEX + ARGUMENT + STATE,
        "int saw(int, int)" + INDEX + ARGUMENT + STATE, "int sawAround(int, int, int)" + INDEX + ARGUMENT,
        "int takeOut(int)" + INDEX + STATE, "int takeAll()", "int setMelt(int)" + ARGUMENT,
        "int pass(int)" + ARGUMENT, "int cell(int, int)" + INDEX + ARGUMENT,
        "int block(int, int)" + INDEX + ARGUMENT, "int move(int, int)" + INDEX, "int value(int)" + ARGUMENT,
        "int taken(int, int)" + INDEX + ARGUMENT, "int cutsAround(int, int, int)" + INDEX + ARGUMENT,
        "int takable()", "int leftStranded()", "int daysWhole(int)" + INDEX, "int daysToWater()",
        "int barredBy()", "double harvest()", "int append(int)" + ARGUMENT + STATE, "int clearText()",
        "int parse()", "int undo()" + STATE, "long digest()", "int NONE", "IceField()"};

    private FaceTest() {
    }

    public static void main(String[] args) {
        Set<String> seen = new TreeSet<>();
        for (Method method : IceField.class.getDeclaredMethods()) {
            if (!Modifier.isPrivate(method.getModifiers()) && !method.isSynthetic()) {
                seen.add(method.getReturnType() + " " + method.getName() + types(method.getParameterTypes())
                    + exceptions(method));
                Due.is(method + " is public", Modifier.PUBLIC, () -> method.getModifiers());
            }
        }
        for (Field field : IceField.class.getDeclaredFields()) {
            if (!Modifier.isPrivate(field.getModifiers()) && !field.isSynthetic()) {
                seen.add(field.getType() + " " + field.getName());
                Due.is(field + " is a constant", Modifier.PUBLIC | Modifier.STATIC | Modifier.FINAL,
                    () -> field.getModifiers());
            }
        }
        for (Constructor<?> constructor : IceField.class.getDeclaredConstructors()) {
            seen.add("IceField" + types(constructor.getParameterTypes()));
        }
        Set<String> due = new TreeSet<>(Set.of(FACE));
        Due.is("the face " + seen, 1, () -> seen.equals(due) ? 1 : 0);
        Due.is("public and final", Modifier.PUBLIC | Modifier.FINAL, () -> IceField.class.getModifiers());
        for (Class<?> inside : IceField.class.getDeclaredClasses()) {
            Due.is(inside + " is static", 1, () -> Modifier.isStatic(inside.getModifiers()) ? 1 : 0);
            Due.is(inside + " is not public", 0, () -> Modifier.isPublic(inside.getModifiers()) ? 1 : 0);
            namesNothingAsTheFace(inside);
        }
        namesNothingAsTheFace(IceField.class);
        Due.end();
    }

    /** LANGUAGE.md, rule 1: no private method bears the name of a public one. */
    private static void namesNothingAsTheFace(Class<?> type) {
        Set<String> face = new TreeSet<>();
        for (Method method : IceField.class.getDeclaredMethods()) {
            if (Modifier.isPublic(method.getModifiers())) {
                face.add(method.getName());
            }
        }
        for (Method method : type.getDeclaredMethods()) {
            if (!Modifier.isPublic(method.getModifiers())) {
                Due.is(method + " has a name of the face", 0, () -> face.contains(method.getName()) ? 1 : 0);
            }
        }
    }

    private static String types(Class<?>[] types) {
        StringBuilder names = new StringBuilder("(");
        for (int i = 0; i < types.length; i++) {
            names.append(i == 0 ? "" : ", ").append(types[i]);
        }
        return names.append(')').toString();
    }

    private static String exceptions(Method method) {
        StringBuilder names = new StringBuilder();
        for (Class<?> type : method.getExceptionTypes()) {
            names.append(" throws ").append(type.getSimpleName());
        }
        return names.toString();
    }
}
