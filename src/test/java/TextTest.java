/** Promises 22 to 24: the text and the field that is read from it. */
public final class TextTest {
    private TextTest() {
    }

    public static void main(String[] args) {
        Due.runAll(TextTest.class, 22, 24);
    }

    static void promise22Append() {
        IceField x = new IceField();
        Due.is("lowest byte", 1, () -> x.append(0));
        Due.is("highest byte", 2, () -> x.append(127));
        for (int length = 3; length <= 60; length++) {
            Due.is("length", length, () -> x.append('1'));
        }
        Due.state("full", x, () -> x.append('1'));
        Due.argument("the value comes first", x, () -> x.append(128));
        Due.state("not undoable", x, x::undo);
    }

    static void promise23ClearText() {
        IceField x = new IceField();
        Due.is("empty", 0, x::clearText);
        Due.type(x, "12/34");
        Due.is("its length", 5, x::clearText);
        Due.is("empty then", 0, x::clearText);
        Due.is("from the start", 1, () -> x.append('1'));
        Due.state("not undoable", x, x::undo);
    }

    static void promise24Parse() {
        IceField x = new IceField();
        x.setMelt(4);
        x.sawAround(12, 4, 1);
        x.takeOut(12);
        x.pass(1);
        Due.type(x, "123/405");
        Due.is("volume", 15, x::parse);
        int[] due = {3, 2, 5, 1, 0, 0, 0, 4, 0, 15, 15, 0, 0, 0};
        for (int i = 0; i < due.length; i++) {
            int what = i;
            Due.is("value(" + i + ")", due[i], () -> x.value(what));
        }
        int[] thickness = {1, 2, 3, 4, 0, 5};
        for (int i = 0; i < thickness.length; i++) {
            int cell = i;
            Due.is("cell " + i, thickness[i], () -> x.cell(cell, 0));
        }
        Due.index("nothing kept", x, () -> x.taken(0, 0));
        Due.is("the text stays", 15, x::parse);
        Due.is("undoable", 3, x::undo);
        Due.is("undoable", 2, x::undo);
        Due.is("undone", 4, () -> x.value(0));
        Due.is("undone, kept", 12, () -> x.taken(0, 0));
        Due.is("the text is not undone", 7, x::clearText);
    }
}
