import java.lang.reflect.Constructor;
import java.lang.reflect.Field;
import java.lang.reflect.Method;
import java.lang.reflect.Modifier;
import java.util.Set;
import java.util.TreeSet;

/** The public face: just what the document writes down, and nothing else that can be seen from outside. */
public final class FaceTest {
    private static final String[] FACE = {
        "int make(int,int,int)", "int lay(int,int)", "int saw(int,int)", "int sawAround(int,int,int)",
        "int takeOut(int)", "int takeAll()", "int setMelt(int)", "int pass(int)", "int cell(int,int)",
        "int block(int,int)", "int move(int,int)", "int value(int)", "int taken(int,int)",
        "int cutsAround(int,int,int)", "int takable()", "int leftStranded()", "int daysWhole(int)",
        "int daysToWater()", "int barredBy()", "double harvest()", "int append(int)", "int clearText()",
        "int parse()", "int undo()", "long digest()", "int NONE", "IceField()"};

    private FaceTest() {
    }

    public static void main(String[] args) {
        Set<String> seen = new TreeSet<>();
        for (Method method : IceField.class.getDeclaredMethods()) {
            if (!Modifier.isPrivate(method.getModifiers()) && !method.isSynthetic()) {
                seen.add(method.getReturnType() + " " + method.getName() + types(method.getParameterTypes()));
                Due.is(method + " is public", Modifier.PUBLIC, () -> method.getModifiers());
            }
        }
        for (Field field : IceField.class.getDeclaredFields()) {
            if (!Modifier.isPrivate(field.getModifiers()) && !field.isSynthetic()) {
                seen.add(field.getType() + " " + field.getName());
                Due.is(field + " is a constant", Modifier.PUBLIC | Modifier.STATIC | Modifier.FINAL,
                    () -> field.getModifiers());
            }
        }
        for (Constructor<?> constructor : IceField.class.getDeclaredConstructors()) {
            seen.add("IceField" + types(constructor.getParameterTypes()));
        }
        Set<String> due = new TreeSet<>(Set.of(FACE));
        Due.is("the face " + seen, 1, () -> seen.equals(due) ? 1 : 0);
        Due.is("public and final", Modifier.PUBLIC | Modifier.FINAL, () -> IceField.class.getModifiers());
        for (Class<?> inside : IceField.class.getDeclaredClasses()) {
            Due.is(inside + " is static", 1, () -> Modifier.isStatic(inside.getModifiers()) ? 1 : 0);
            Due.is(inside + " is not public", 0, () -> Modifier.isPublic(inside.getModifiers()) ? 1 : 0);
        }
        Due.end();
    }

    private static String types(Class<?>[] types) {
        StringBuilder names = new StringBuilder("(");
        for (int i = 0; i < types.length; i++) {
            names.append(i == 0 ? "" : ",").append(types[i]);
        }
        return names.append(')').toString();
    }
}
