/** Promises 1 to 9: the calls that make and change a field. */
public final class FieldTest {
    private FieldTest() {
    }

    public static void main(String[] args) {
        Due.runAll(FieldTest.class, 1, 9);
    }

    private static void values(String what, IceField x, int... due) {
        for (int i = 0; i < due.length; i++) {
            int index = i;
            Due.is(what + ": value(" + i + ")", due[i], () -> x.value(index));
        }
    }

    static void promise01NewObject() {
        IceField x = new IceField();
        values("new", x, 4, 4, 16, 1, 0, 0, 0, 1, 0, 160, 160, 0, 0, 0);
        for (int cell = 0; cell < 16; cell++) {
            int number = cell;
            Due.is("thickness", 10, () -> x.cell(number, 0));
            Due.is("block", 0, () -> x.cell(number, 5));
        }
        Due.is("held", 1, () -> x.block(0, 3));
        Due.state("no saved state", x, x::undo);
        Due.index("nothing taken", x, () -> x.taken(0, 0));
        Due.is("no text", 0, x::clearText);
        Due.is("NONE", -1, () -> IceField.NONE);
    }

    static void promise02Make() {
        IceField x = new IceField();
        Due.is("smallest width", 700, () -> x.make(2, 7, 50));
        values("made", x, 2, 7, 14, 1, 0, 0, 0, 1, 0, 700, 700, 0, 0, 0);
        Due.is("water only", 0, () -> x.make(7, 2, 0));
        values("water", x, 7, 2, 0, 0, 0, 0, 0, 1, 0, 0, 0, 0, 0, 0);
        Due.is("greatest", 2450, () -> x.make(7, 7, 50));
        Due.is("smaller than before", 12, () -> x.make(2, 2, 3));
        Due.is("volume of the smaller one", 12, () -> x.value(10));
    }

    static void promise02ForgetsTheFieldBefore() {
        IceField x = new IceField();
        x.setMelt(3);
        x.sawAround(12, 4, 1);
        x.takeOut(12);
        x.pass(2);
        Due.is("ahead of make", 1, () -> x.value(13));
        Due.is("make", 80, () -> x.make(4, 4, 5));
        values("anew", x, 4, 4, 16, 1, 0, 0, 0, 3, 0, 80, 80, 0, 0, 0);
        Due.index("nothing kept", x, () -> x.taken(0, 0));
        Due.is("undoable", 3, x::undo);
        values("undone", x, 4, 4, 12, 1, 0, 0, 4, 3, 2);
        Due.is("kept again", 12, () -> x.taken(0, 0));
    }

    static void promise03Lay() {
        IceField x = new IceField();
        Due.is("lay", 11, () -> x.lay(0, 1));
        Due.is("up to 50", 50, () -> x.lay(15, 40));
        Due.is("laid", 201, () -> x.value(9));
        Due.is("in the field", 201, () -> x.value(10));
        Due.state("more than 50", x, () -> x.lay(15, 1));
        Due.state("more than 50 at once", x, () -> x.lay(1, 41));
        Due.is("undoable", 1, x::undo);
        Due.is("undone", 10, () -> x.cell(15, 0));
        x.make(2, 2, 0);
        Due.is("on water", 50, () -> x.lay(3, 50));
        Due.is("a block", 3, () -> x.cell(3, 5));
        Due.is("one block", 1, () -> x.value(3));
    }

    static void promise04Saw() {
        IceField x = new IceField();
        Due.is("right", 1, () -> x.saw(5, 0));
        Due.is("again", 0, () -> x.saw(5, 0));
        Due.is("right is left of the next one", 0, () -> x.saw(6, 3));
        Due.is("below", 1, () -> x.saw(5, 1));
        Due.is("below is above the next one", 0, () -> x.saw(9, 2));
        Due.is("above", 1, () -> x.saw(5, 2));
        Due.is("above is below the next one", 0, () -> x.saw(1, 1));
        Due.is("left", 1, () -> x.saw(5, 3));
        Due.is("left is right of the next one", 0, () -> x.saw(4, 0));
        Due.is("shore", 1, () -> x.saw(3, 2));
        Due.is("cuts", 5, () -> x.value(6));
        Due.is("undoable, without a change, too", 3, x::undo);
        Due.is("cuts undone", 4, () -> x.value(6));
        Due.state("left wall", x, () -> x.saw(4, 3));
        Due.state("right wall", x, () -> x.saw(7, 0));
        Due.state("open water", x, () -> x.saw(13, 1));
        Due.state("upper left", x, () -> x.saw(0, 3));
        Due.state("lower right", x, () -> x.saw(15, 0));
    }

    static void promise05SawAround() {
        IceField x = new IceField();
        Due.is("within", 8, () -> x.sawAround(5, 2, 2));
        Due.is("again", 0, () -> x.sawAround(5, 2, 2));
        Due.is("a block", 4, () -> x.block(10, 1));
        Due.is("undoable without a change", 1, x::undo);
        Due.is("all of the field", 4, () -> x.sawAround(0, 4, 4));
        Due.is("lower right", 2, () -> x.sawAround(15, 1, 1));
        Due.is("upper left", 2, () -> x.sawAround(0, 1, 1));
        Due.is("a row", 3 + 4 - 1 - 1, () -> x.sawAround(12, 3, 1) + x.sawAround(8, 4, 1));
        Due.argument("beyond the right wall", x, () -> x.sawAround(6, 3, 1));
        Due.argument("beyond the last row", x, () -> x.sawAround(9, 1, 3));
        x.make(7, 7, 1);
        Due.is("greatest", 7, () -> x.sawAround(0, 7, 7));
    }

    static void promise06TakeOut() {
        IceField x = Due.read("99/98");
        x.sawAround(2, 2, 1);
        x.sawAround(0, 2, 1);
        Due.state("stranded", x, () -> x.takeOut(0));
        Due.is("by any of its cells", 17, () -> x.takeOut(3));
        Due.is("water", 0, () -> x.cell(2, 0) + x.cell(3, 0));
        Due.state("taken already", x, () -> x.takeOut(3));
        Due.is("the cuts stay", 4, () -> x.value(6));
        x.pass(3);
        Due.is("thinner by then", 2 * (9 - 3), () -> x.takeOut(0));
        Due.is("taken", 29, () -> x.value(11));
        Due.is("melted", 6, () -> x.value(12));
        Due.is("what was laid", 35, () -> x.value(9));
        Due.is("its number", 2, () -> x.taken(0, 0));
        Due.is("its day", 0, () -> x.taken(0, 2));
        Due.is("the next one's day", 3, () -> x.taken(1, 2));
        Due.is("undoable", 3, x::undo);
        Due.is("undone", 1, () -> x.value(13));
        Due.is("undone, kept", 17, () -> x.taken(0, 1));
        Due.index("undone, not kept", x, () -> x.taken(1, 0));

        IceField y = new IceField();
        Due.state("held", y, () -> y.takeOut(15));
    }

    static void promise07TakeAll() {
        IceField x = Due.read("99/99");
        Due.is("nothing loose", 0, x::takeAll);
        x.sawAround(0, 2, 1);
        Due.is("all", 2, x::takeAll);
        Due.is("the lower one was first", 2, () -> x.taken(0, 0));
        Due.is("then the other one", 0, () -> x.taken(1, 0));
        Due.is("no ice", 0, () -> x.value(2));
        Due.is("taken", 36, () -> x.value(11));
        Due.is("none is left", 0, x::takeAll);
        Due.is("undoable without a change", 3, x::undo);
        Due.is("undoable", 2, x::undo);
        Due.is("undone", 4, () -> x.value(2));

        IceField y = new IceField();
        y.sawAround(5, 1, 1);
        Due.is("stranded ones stay", 0, y::takeAll);
        Due.is("stranded", 1, () -> y.value(5));
    }

    static void promise07TakesTheLowestEachTime() {
        IceField x = Due.read("999/999/999");
        x.sawAround(6, 1, 1);
        x.sawAround(8, 1, 1);
        x.sawAround(3, 1, 1);
        x.sawAround(7, 1, 1);
        Due.is("four blocks", 4, x::takeAll);
        int[] due = {6, 3, 7, 8};
        for (int i = 0; i < due.length; i++) {
            int index = i;
            Due.is("the lowest one each time", due[i], () -> x.taken(index, 0));
        }
    }

    static void promise08SetMelt() {
        IceField x = new IceField();
        Due.is("at first", 1, () -> x.setMelt(9));
        Due.is("previous", 9, () -> x.setMelt(0));
        Due.is("lowest", 0, () -> x.setMelt(0));
        Due.is("undoable without a change", 2, x::undo);
        Due.is("undone to 0", 0, () -> x.value(7));
        Due.is("undoable", 1, x::undo);
        Due.is("undone", 9, () -> x.value(7));
    }

    static void promise09Pass() {
        IceField x = Due.read("999/909/999");
        Due.is("one day", 9, () -> x.pass(1));
        Due.is("two sides of water", 7, () -> x.cell(7, 0));
        Due.is("one side of water", 8, () -> x.cell(6, 0));
        Due.is("days", 1, () -> x.value(8));
        Due.is("melted", 9, () -> x.value(12));
        Due.is("in the field", 63, () -> x.value(10));
        Due.is("laid", 72, () -> x.value(9));
        x.setMelt(0);
        Due.is("without melt", 1, () -> x.pass(1));
        x.setMelt(9);
        Due.is("not below 0", 62, () -> x.pass(1));
        Due.is("melted in all", 72, () -> x.value(12));
        Due.is("no ice", 0, () -> x.pass(50));
        Due.is("days go on", 53, () -> x.value(8));
        Due.is("undoable", 3, x::undo);
        Due.is("undone", 3, () -> x.value(8));
    }
}
