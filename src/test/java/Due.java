import java.lang.reflect.InvocationTargetException;
import java.lang.reflect.Method;
import java.util.Set;
import java.util.TreeMap;
import java.util.TreeSet;

/** What the tests share: calls with the answers that are due, and fields that are read from a text. */
final class Due {
    interface Call {
        long answer();
    }

    interface CallWith {
        long answer(int number);
    }

    private static int asked = 0;
    private static int wrong = 0;
    private static String test = "";

    private Due() {
    }

    /**
     * Runs every test of a class, so that none is left out: its methods named promiseNN.., NN from first to
     * last. Each of these promises has to have a test.
     */
    static void runAll(Class<?> tests, int first, int last) {
        TreeMap<String, Method> methods = new TreeMap<>();
        for (Method method : tests.getDeclaredMethods()) {
            if (method.getName().startsWith("promise")) {
                methods.put(method.getName(), method);
            }
        }
        Set<Integer> untested = new TreeSet<>();
        for (int promise = first; promise <= last; promise++) {
            untested.add(promise);
        }
        for (Method method : methods.values()) {
            int promise = Integer.parseInt(method.getName().substring(7, 9));
            untested.remove(promise);
            if (promise < first || promise > last) {
                report(method.getName(), "promise " + promise, first + " to " + last);
            }
            run(method);
        }
        if (!untested.isEmpty()) {
            report(tests.getName(), "no test of " + untested, "one of each promise");
        }
        System.out.println(methods.size() + " tests");
        end();
    }

    private static void run(Method method) {
        test = method.getName() + ": ";
        int before = asked;
        try {
            method.invoke(null);
        } catch (InvocationTargetException e) {
            report("the test", "threw " + e.getCause(), "no exception");
        } catch (IllegalAccessException e) {
            report("the test", "private", "a test that can be called");
        }
        if (asked == before) {
            report("the test", "nothing asked", "an answer");
        }
        test = "";
    }

    /** The call answers this number. */
    static void is(String what, long due, Call call) {
        asked++;
        String got = told(call);
        if (!got.equals(String.valueOf(due))) {
            report(what, got, String.valueOf(due));
        }
    }

    /** The call answers these numbers for 0, 1, 2 and so on. */
    static void are(String what, CallWith call, long... due) {
        for (int i = 0; i < due.length; i++) {
            int number = i;
            is(what + " at " + i, due[i], () -> call.answer(number));
        }
    }

    /** The call throws just this exception, no subclass of it, and leaves the field as it was. */
    static void fails(String what, Class<?> due, IceField field, Call call) {
        asked++;
        long before = field.digest();
        String got = told(call);
        if (!got.equals(due.getName())) {
            report(what, got, due.getName());
        }
        is(what + " changes nothing", before, field::digest);
    }

    static void index(String what, IceField field, Call call) {
        fails(what, IndexOutOfBoundsException.class, field, call);
    }

    static void argument(String what, IceField field, Call call) {
        fails(what, IllegalArgumentException.class, field, call);
    }

    static void state(String what, IceField field, Call call) {
        fails(what, IllegalStateException.class, field, call);
    }

    static void indexes(IceField field, CallWith call, int... numbers) {
        for (int number : numbers) {
            index("with " + number, field, () -> call.answer(number));
        }
    }

    static void arguments(IceField field, CallWith call, int... numbers) {
        for (int number : numbers) {
            argument("with " + number, field, () -> call.answer(number));
        }
    }

    static void states(IceField field, CallWith call, int... numbers) {
        for (int number : numbers) {
            state("with " + number, field, () -> call.answer(number));
        }
    }

    /**
     * Asks at first, behind the digest and behind another question: a question leaves all as it was, and no
     * answer depends on what was asked before.
     */
    static void asks(String what, IceField field, long due, Call call) {
        is(what, due, call);
        long before = field.digest();
        is(what + " behind the digest", due, call);
        field.daysToWater();
        is(what + " behind another question", due, call);
        is(what + " changes nothing", before, field::digest);
    }

    /** The answer, or the name of the exception that is thrown. */
    static String told(Call call) {
        try {
            return String.valueOf(call.answer());
        } catch (RuntimeException e) {
            return e.getClass().getName();
        }
    }

    static void report(String what, String got, String due) {
        wrong++;
        System.out.println(test + what + ": answered " + got + ", due is " + due);
    }

    static void type(IceField field, String text) {
        field.clearText();
        for (int i = 0; i < text.length(); i++) {
            field.append(text.charAt(i));
        }
    }

    static IceField read(String text) {
        IceField field = new IceField();
        type(field, text);
        if (field.parse() < 0) {
            report("read " + text, "a syntax error", "a field");
        }
        return field;
    }

    static IceField made(int width, int height, int thickness) {
        IceField field = new IceField();
        field.make(width, height, thickness);
        return field;
    }

    /** The most blocks that a field can have: 49 loose ones, each of one cell of 2. */
    static IceField singleCells() {
        IceField field = made(7, 7, 2);
        for (int cell = 0; cell < 49; cell++) {
            field.sawAround(cell, 1, 1);
        }
        return field;
    }

    static void end() {
        System.out.println(asked + " answers asked, " + wrong + " wrong");
        if (wrong != 0 || asked == 0) {
            System.exit(1);
        }
    }
}
