/** Promises 22 to 24: the text and the field that is read from it. */
public final class TextTest {
    private TextTest() {
    }

    public static void main(String[] args) {
        append();
        clearText();
        parse();
        parseErrors();
        parseErrorChangesNothing();
        Due.end();
    }

    private static void append() {
        IceField x = new IceField();
        Due.is("22: lowest byte", 1, () -> x.append(0));
        Due.is("22: highest byte", 2, () -> x.append(127));
        int[] wrong = {-1, 128, Integer.MAX_VALUE, Integer.MIN_VALUE};
        for (int value : wrong) {
            Due.argument("22: value " + value, x, () -> x.append(value));
        }
        for (int length = 3; length <= 60; length++) {
            Due.is("22: length", length, () -> x.append('1'));
        }
        Due.state("22: full", x, () -> x.append('1'));
        Due.argument("22: the value comes first", x, () -> x.append(128));
        Due.state("22: not undoable", x, x::undo);
    }

    private static void clearText() {
        IceField x = new IceField();
        Due.is("23: empty", 0, x::clearText);
        Due.type(x, "12/34");
        Due.is("23: its length", 5, x::clearText);
        Due.is("23: empty then", 0, x::clearText);
        Due.is("23: from the start", 1, () -> x.append('1'));
        Due.state("23: not undoable", x, x::undo);
    }

    private static void parse() {
        IceField x = new IceField();
        x.setMelt(4);
        x.sawAround(12, 4, 1);
        x.takeOut(12);
        x.pass(1);
        Due.type(x, "123/405");
        Due.is("24: volume", 15, x::parse);
        int[] due = {3, 2, 5, 1, 0, 0, 0, 4, 0, 15, 15, 0, 0, 0};
        for (int i = 0; i < due.length; i++) {
            int what = i;
            Due.is("24: value(" + i + ")", due[i], () -> x.value(what));
        }
        int[] thickness = {1, 2, 3, 4, 0, 5};
        for (int i = 0; i < thickness.length; i++) {
            int cell = i;
            Due.is("24: cell " + i, thickness[i], () -> x.cell(cell, 0));
        }
        Due.index("24: nothing kept", x, () -> x.taken(0, 0));
        Due.is("24: the text stays", 15, x::parse);
        Due.is("24: undoable", 3, x::undo);
        Due.is("24: undoable", 2, x::undo);
        Due.is("24: undone", 4, () -> x.value(0));
        Due.is("24: undone, kept", 12, () -> x.taken(0, 0));
        Due.is("24: the text is not undone", 7, x::clearText);
    }

    private static void parseErrors() {
        String[] texts = {"", "/", "1", "1/", "12", "12/", "12//", "12/3", "12/3/", "12/34/", "12/345", "12/34/5",
            "12345678", "1234567", "1234567/12345678", "12 34", "a", "1:", "1.", "12/3x", "12/34x", "12/34/56/7/",
            "00/11/00/11/00/11/00/", "00/11/00/11/00/11/00/11", "00/11/00/11/00/11/001", "\u007f", "\u0000"};
        int[] errors = {0, 0, 1, 1, 2, 3, 3, 4, 4, 6, 5, 7,
            7, 7, 15, 2, 0, 1, 1, 4, 5, 10,
            20, 20, 20, 0, 0};
        for (int i = 0; i < texts.length; i++) {
            IceField x = new IceField();
            Due.type(x, texts[i]);
            Due.is("24: error in " + texts[i], -10 - errors[i], x::parse);
        }
        String[] fields = {"12/34", "1234567/7654321", "00/11/00/11/00/11/00", "00/00",
            "9999999/9999999/9999999/9999999/9999999/9999999/9999999"};
        int[] volumes = {10, 56, 6, 0, 441};
        for (int i = 0; i < fields.length; i++) {
            IceField x = new IceField();
            Due.type(x, fields[i]);
            Due.is("24: " + fields[i], volumes[i], x::parse);
        }
    }

    private static void parseErrorChangesNothing() {
        IceField x = new IceField();
        x.sawAround(5, 1, 1);
        Due.type(x, "12/345");
        long before = x.digest();
        Due.is("24: error", -15, x::parse);
        Due.is("24: an error changes nothing", before, x::digest);
        Due.is("24: an error is not undoable", 0, x::undo);
        Due.is("24: the text stays behind an error", 6, x::clearText);
    }
}
