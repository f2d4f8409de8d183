/** What the tests share: calls with the answers that are due, and fields that are read from a text. */
final class Due {
    interface Call {
        long answer();
    }

    private static int asked = 0;
    private static int wrong = 0;

    private Due() {
    }

    /** The call answers this number. */
    static void is(String what, long due, Call call) {
        asked++;
        String got = told(call);
        if (!got.equals(String.valueOf(due))) {
            report(what, got, String.valueOf(due));
        }
    }

    /** The call throws just this exception, no subclass of it, and leaves the field as it was. */
    static void fails(String what, Class<?> due, IceField field, Call call) {
        asked++;
        long before = field.digest();
        String got = told(call);
        if (!got.equals(due.getName())) {
            report(what, got, due.getName());
        }
        is(what + " changes nothing", before, field::digest);
    }

    static void index(String what, IceField field, Call call) {
        fails(what, IndexOutOfBoundsException.class, field, call);
    }

    static void argument(String what, IceField field, Call call) {
        fails(what, IllegalArgumentException.class, field, call);
    }

    static void state(String what, IceField field, Call call) {
        fails(what, IllegalStateException.class, field, call);
    }

    /** The answer, or the name of the exception that is thrown. */
    static String told(Call call) {
        try {
            return String.valueOf(call.answer());
        } catch (RuntimeException e) {
            return e.getClass().getName();
        }
    }

    static void report(String what, String got, String due) {
        wrong++;
        System.out.println(what + ": answered " + got + ", due is " + due);
    }

    static void type(IceField field, String text) {
        field.clearText();
        for (int i = 0; i < text.length(); i++) {
            field.append(text.charAt(i));
        }
    }

    static IceField read(String text) {
        IceField field = new IceField();
        type(field, text);
        if (field.parse() < 0) {
            report("read " + text, "a syntax error", "a field");
        }
        return field;
    }

    static void end() {
        System.out.println(asked + " answers asked, " + wrong + " wrong");
        if (wrong != 0 || asked == 0) {
            System.exit(1);
        }
    }
}
