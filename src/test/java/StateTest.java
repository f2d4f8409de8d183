/** Promises 25 and 26: undo and digest. */
public final class StateTest {
    private StateTest() {
    }

    public static void main(String[] args) {
        Due.runAll(StateTest.class, 25, 26);
    }

    static void promise25Undo() {
        IceField x = new IceField();
        Due.state("nothing saved", x, x::undo);
        x.setMelt(5);
        Due.is("none remains", 0, x::undo);
        Due.is("restored", 1, () -> x.value(7));
        Due.state("nothing saved any more", x, x::undo);
    }

    static void promise25UndoOfEveryCall() {
        undone("make", x -> x.make(3, 3, 3));
        undone("lay", x -> x.lay(12, 5));
        undone("saw", x -> x.saw(5, 0));
        undone("saw again", x -> x.saw(14, 3));
        undone("sawAround", x -> x.sawAround(5, 1, 2));
        undone("sawAround again", x -> x.sawAround(12, 2, 1));
        undone("takeOut", x -> x.takeOut(15));
        undone("takeAll", x -> x.takeAll());
        undone("setMelt", x -> x.setMelt(9));
        undone("setMelt again", x -> x.setMelt(1));
        undone("pass", x -> x.pass(7));
        undone("parse", x -> x.parse());
        IceField y = new IceField();
        y.takeAll();
        Due.is("takeAll of none is undoable", 0, y::undo);
    }

    private interface Change {
        long in(IceField x);
    }

    private static void undone(String what, Change change) {
        IceField x = new IceField();
        x.sawAround(12, 2, 1);
        x.sawAround(14, 2, 1);
        x.takeOut(12);
        Due.type(x, "99/99");
        long before = x.digest();
        change.in(x);
        Due.is(what + " is undoable", 3, x::undo);
        Due.is(what + " is undone", before, x::digest);
        Due.is("what was taken is restored", 12, () -> x.taken(0, 0));
    }

    static void promise26Digest() {
        IceField x = new IceField();
        hashed("new", x, 0, 0);
        Due.type(x, "0900/0990/9099/9909");
        x.parse();
        hashed("read", x, 19, 1);
        x.sawAround(5, 2, 1);
        x.sawAround(12, 2, 1);
        hashed("sawn", x, 19, 3);
        x.takeAll();
        hashed("taken", x, 19, 4);
        x.pass(2);
        x.setMelt(7);
        hashed("melted", x, 19, 4);
        x.undo();
        x.clearText();
        hashed("undone", x, 0, 3);
        IceField y = new IceField();
        Due.is("the overflow is ignored", new IceField().digest(), y::digest);
    }

    /** Hashes what the other calls tell, as the document says it. */
    private static void hashed(String what, IceField x, int textLength, int savedStates) {
        long h = 31 * 3557L + textLength;
        for (int i = 0; i <= 13; i++) {
            h = 31 * h + x.value(i);
        }
        for (int cell = 0; cell < x.value(0) * x.value(1); cell++) {
            for (int i = 0; i <= 6; i++) {
                h = 31 * h + x.cell(cell, i);
            }
            h = 31 * h + x.block(cell, 3);
            h = 31 * h + x.block(cell, 4);
        }
        for (int index = 0; index < Math.min(40, x.value(13)); index++) {
            for (int i = 0; i <= 2; i++) {
                h = 31 * h + x.taken(index, i);
            }
        }
        h = 31 * h + x.takable();
        Due.is(what, 31 * h + savedStates, x::digest);
    }
}
