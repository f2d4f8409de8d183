/** Promises 1 to 9: the calls that make and change a field. */
public final class FieldTest {
    private static final int[] WRONG_CELLS = {16, -1, 17, Integer.MAX_VALUE, Integer.MIN_VALUE};

    private FieldTest() {
    }

    public static void main(String[] args) {
        newObject();
        make();
        makeForgets();
        lay();
        saw();
        sawOnWater();
        sawAround();
        takeOut();
        takeAll();
        takeAllOrder();
        setMelt();
        pass();
        passAllAtOnce();
        Due.end();
    }

    private static void values(String what, IceField x, int... due) {
        for (int i = 0; i < due.length; i++) {
            int index = i;
            Due.is(what + ": value(" + i + ")", due[i], () -> x.value(index));
        }
    }

    private static void newObject() {
        IceField x = new IceField();
        values("1", x, 4, 4, 16, 1, 0, 0, 0, 1, 0, 160, 160, 0, 0, 0);
        for (int cell = 0; cell < 16; cell++) {
            int number = cell;
            Due.is("1: thickness", 10, () -> x.cell(number, 0));
            Due.is("1: block", 0, () -> x.cell(number, 5));
        }
        Due.is("1: held", 1, () -> x.block(0, 3));
        Due.state("1: no saved state", x, x::undo);
        Due.index("1: nothing taken", x, () -> x.taken(0, 0));
        Due.is("1: no text", 0, x::clearText);
        Due.is("1: NONE", -1, () -> IceField.NONE);
    }

    private static void make() {
        IceField x = new IceField();
        Due.is("2: smallest width", 700, () -> x.make(2, 7, 50));
        values("2", x, 2, 7, 14, 1, 0, 0, 0, 1, 0, 700, 700, 0, 0, 0);
        Due.is("2: water only", 0, () -> x.make(7, 2, 0));
        values("2 water", x, 7, 2, 0, 0, 0, 0, 0, 1, 0, 0, 0, 0, 0, 0);
        Due.is("2: greatest", 2450, () -> x.make(7, 7, 50));
        Due.is("2: smaller than before", 12, () -> x.make(2, 2, 3));
        Due.is("2: volume of the smaller one", 12, () -> x.value(10));
        int[] wrongSides = {1, 8, 0, -1, Integer.MAX_VALUE, Integer.MIN_VALUE};
        for (int side : wrongSides) {
            Due.argument("2: width " + side, x, () -> x.make(side, 4, 10));
            Due.argument("2: height " + side, x, () -> x.make(4, side, 10));
        }
        int[] wrongThicknesses = {-1, 51, Integer.MAX_VALUE, Integer.MIN_VALUE};
        for (int thickness : wrongThicknesses) {
            Due.argument("2: thickness " + thickness, x, () -> x.make(4, 4, thickness));
        }
    }

    private static void makeForgets() {
        IceField x = new IceField();
        x.setMelt(3);
        x.sawAround(12, 4, 1);
        x.takeOut(12);
        x.pass(2);
        Due.is("2: ahead of make", 1, () -> x.value(13));
        Due.is("2: make", 80, () -> x.make(4, 4, 5));
        values("2 anew", x, 4, 4, 16, 1, 0, 0, 0, 3, 0, 80, 80, 0, 0, 0);
        Due.index("2: nothing kept", x, () -> x.taken(0, 0));
        Due.is("2: undoable", 3, x::undo);
        values("2 undone", x, 4, 4, 12, 1, 0, 0, 4, 3, 2);
        Due.is("2: kept again", 12, () -> x.taken(0, 0));
    }

    private static void lay() {
        IceField x = new IceField();
        Due.is("3: lay", 11, () -> x.lay(0, 1));
        Due.is("3: up to 50", 50, () -> x.lay(15, 40));
        Due.is("3: laid", 201, () -> x.value(9));
        Due.is("3: in the field", 201, () -> x.value(10));
        Due.state("3: more than 50", x, () -> x.lay(15, 1));
        Due.state("3: more than 50 at once", x, () -> x.lay(1, 41));
        for (int cell : WRONG_CELLS) {
            Due.index("3: cell " + cell, x, () -> x.lay(cell, 1));
            Due.index("3: the cell comes first", x, () -> x.lay(cell, 0));
        }
        int[] wrongMore = {0, -1, 51, Integer.MAX_VALUE, Integer.MIN_VALUE};
        for (int more : wrongMore) {
            Due.argument("3: more " + more, x, () -> x.lay(15, more));
        }
        Due.is("3: undoable", 1, x::undo);
        Due.is("3: undone", 10, () -> x.cell(15, 0));
        x.make(2, 2, 0);
        Due.is("3: on water", 50, () -> x.lay(3, 50));
        Due.is("3: a block", 3, () -> x.cell(3, 5));
        Due.is("3: one block", 1, () -> x.value(3));
    }

    private static void saw() {
        IceField x = new IceField();
        Due.is("4: right", 1, () -> x.saw(5, 0));
        Due.is("4: again", 0, () -> x.saw(5, 0));
        Due.is("4: right is left of the next one", 0, () -> x.saw(6, 3));
        Due.is("4: below", 1, () -> x.saw(5, 1));
        Due.is("4: below is above the next one", 0, () -> x.saw(9, 2));
        Due.is("4: above", 1, () -> x.saw(5, 2));
        Due.is("4: above is below the next one", 0, () -> x.saw(1, 1));
        Due.is("4: left", 1, () -> x.saw(5, 3));
        Due.is("4: left is right of the next one", 0, () -> x.saw(4, 0));
        Due.is("4: shore", 1, () -> x.saw(3, 2));
        Due.is("4: cuts", 5, () -> x.value(6));
        Due.is("4: undoable, without a change, too", 3, x::undo);
        Due.is("4: cuts undone", 4, () -> x.value(6));
        Due.state("4: left wall", x, () -> x.saw(4, 3));
        Due.state("4: right wall", x, () -> x.saw(7, 0));
        Due.state("4: open water", x, () -> x.saw(13, 1));
        Due.state("4: upper left", x, () -> x.saw(0, 3));
        Due.state("4: lower right", x, () -> x.saw(15, 0));
        int[] wrongSides = {4, -1, Integer.MAX_VALUE, Integer.MIN_VALUE};
        for (int side : wrongSides) {
            Due.argument("4: side " + side, x, () -> x.saw(0, side));
        }
        for (int cell : WRONG_CELLS) {
            Due.index("4: cell " + cell, x, () -> x.saw(cell, 0));
            Due.index("4: the cell comes first", x, () -> x.saw(cell, 4));
        }
    }

    private static void sawOnWater() {
        IceField x = new IceField();
        x.make(2, 2, 0);
        Due.is("4: on water", 1, () -> x.saw(0, 0));
        x.lay(0, 5);
        x.lay(1, 5);
        Due.is("4: the cut stays", 2, () -> x.value(3));
        x.pass(10);
        Due.is("4: water again", 0, () -> x.value(2));
        Due.is("4: the cut stays on water", 1, () -> x.value(6));
    }

    private static void sawAround() {
        IceField x = new IceField();
        Due.is("5: within", 8, () -> x.sawAround(5, 2, 2));
        Due.is("5: again", 0, () -> x.sawAround(5, 2, 2));
        Due.is("5: a block", 4, () -> x.block(10, 1));
        Due.is("5: undoable without a change", 1, x::undo);
        Due.is("5: all of the field", 4, () -> x.sawAround(0, 4, 4));
        Due.is("5: lower right", 2, () -> x.sawAround(15, 1, 1));
        Due.is("5: upper left", 2, () -> x.sawAround(0, 1, 1));
        Due.is("5: a row", 3 + 4 - 1 - 1, () -> x.sawAround(12, 3, 1) + x.sawAround(8, 4, 1));
        for (int cell : WRONG_CELLS) {
            Due.index("5: cell " + cell, x, () -> x.sawAround(cell, 0, 9));
            Due.index("5: cell " + cell, x, () -> x.sawAround(cell, 1, 1));
        }
        int[] wrongSides = {0, -1, 8, 5, Integer.MAX_VALUE, Integer.MIN_VALUE};
        for (int side : wrongSides) {
            Due.argument("5: width " + side, x, () -> x.sawAround(0, side, 1));
            Due.argument("5: height " + side, x, () -> x.sawAround(0, 1, side));
        }
        Due.argument("5: beyond the right wall", x, () -> x.sawAround(6, 3, 1));
        Due.argument("5: beyond the last row", x, () -> x.sawAround(9, 1, 3));
        x.make(7, 7, 1);
        Due.is("5: greatest", 7, () -> x.sawAround(0, 7, 7));
    }

    private static void takeOut() {
        IceField x = Due.read("99/98");
        x.sawAround(2, 2, 1);
        x.sawAround(0, 2, 1);
        Due.state("6: stranded", x, () -> x.takeOut(0));
        Due.is("6: by any of its cells", 17, () -> x.takeOut(3));
        Due.is("6: water", 0, () -> x.cell(2, 0) + x.cell(3, 0));
        Due.state("6: taken already", x, () -> x.takeOut(3));
        Due.is("6: the cuts stay", 4, () -> x.value(6));
        x.pass(3);
        Due.is("6: thinner by then", 2 * (9 - 3), () -> x.takeOut(0));
        Due.is("6: taken", 29, () -> x.value(11));
        Due.is("6: melted", 6, () -> x.value(12));
        Due.is("6: what was laid", 35, () -> x.value(9));
        Due.is("6: its number", 2, () -> x.taken(0, 0));
        Due.is("6: its day", 0, () -> x.taken(0, 2));
        Due.is("6: the next one's day", 3, () -> x.taken(1, 2));
        Due.is("6: undoable", 3, x::undo);
        Due.is("6: undone", 1, () -> x.value(13));
        Due.is("6: undone, kept", 17, () -> x.taken(0, 1));
        Due.index("6: undone, not kept", x, () -> x.taken(1, 0));

        IceField y = new IceField();
        Due.state("6: held", y, () -> y.takeOut(15));
        for (int cell : WRONG_CELLS) {
            Due.index("6: cell " + cell, y, () -> y.takeOut(cell));
        }
    }

    private static void takeAll() {
        IceField x = Due.read("99/99");
        Due.is("7: nothing loose", 0, x::takeAll);
        x.sawAround(0, 2, 1);
        Due.is("7: all", 2, x::takeAll);
        Due.is("7: the lower one was first", 2, () -> x.taken(0, 0));
        Due.is("7: then the other one", 0, () -> x.taken(1, 0));
        Due.is("7: no ice", 0, () -> x.value(2));
        Due.is("7: taken", 36, () -> x.value(11));
        Due.is("7: none is left", 0, x::takeAll);
        Due.is("7: undoable without a change", 3, x::undo);
        Due.is("7: undoable", 2, x::undo);
        Due.is("7: undone", 4, () -> x.value(2));

        IceField y = new IceField();
        y.sawAround(5, 1, 1);
        Due.is("7: stranded ones stay", 0, y::takeAll);
        Due.is("7: stranded", 1, () -> y.value(5));
    }

    private static void takeAllOrder() {
        IceField x = Due.read("999/999/999");
        x.sawAround(6, 1, 1);
        x.sawAround(8, 1, 1);
        x.sawAround(3, 1, 1);
        x.sawAround(7, 1, 1);
        Due.is("7: four blocks", 4, x::takeAll);
        int[] due = {6, 3, 7, 8};
        for (int i = 0; i < due.length; i++) {
            int index = i;
            Due.is("7: the lowest one each time", due[i], () -> x.taken(index, 0));
        }
    }

    private static void setMelt() {
        IceField x = new IceField();
        Due.is("8: at first", 1, () -> x.setMelt(9));
        Due.is("8: previous", 9, () -> x.setMelt(0));
        Due.is("8: lowest", 0, () -> x.setMelt(0));
        Due.is("8: undoable without a change", 2, x::undo);
        Due.is("8: undone to 0", 0, () -> x.value(7));
        Due.is("8: undoable", 1, x::undo);
        Due.is("8: undone", 9, () -> x.value(7));
        int[] wrong = {-1, 10, Integer.MAX_VALUE, Integer.MIN_VALUE};
        for (int melt : wrong) {
            Due.argument("8: melt " + melt, x, () -> x.setMelt(melt));
        }
    }

    private static void pass() {
        IceField x = Due.read("999/909/999");
        Due.is("9: one day", 9, () -> x.pass(1));
        Due.is("9: two sides of water", 7, () -> x.cell(7, 0));
        Due.is("9: one side of water", 8, () -> x.cell(6, 0));
        Due.is("9: days", 1, () -> x.value(8));
        Due.is("9: melted", 9, () -> x.value(12));
        Due.is("9: in the field", 63, () -> x.value(10));
        Due.is("9: laid", 72, () -> x.value(9));
        x.setMelt(0);
        Due.is("9: without melt", 1, () -> x.pass(1));
        x.setMelt(9);
        Due.is("9: not below 0", 62, () -> x.pass(1));
        Due.is("9: melted in all", 72, () -> x.value(12));
        Due.is("9: no ice", 0, () -> x.pass(50));
        Due.is("9: days go on", 53, () -> x.value(8));
        Due.is("9: undoable", 3, x::undo);
        Due.is("9: undone", 3, () -> x.value(8));
        int[] wrong = {0, -1, 51, Integer.MAX_VALUE, Integer.MIN_VALUE};
        for (int days : wrong) {
            Due.argument("9: days " + days, x, () -> x.pass(days));
        }
    }

    private static void passAllAtOnce() {
        IceField x = Due.read("99/91/00");
        x.pass(1);
        Due.is("9: its right side was ice", 8, () -> x.cell(2, 0));
        x.pass(1);
        Due.is("9: its right side was water", 6, () -> x.cell(2, 0));
        IceField y = Due.read("99/19/00");
        y.pass(1);
        Due.is("9: its left side was ice", 8, () -> y.cell(3, 0));
        y.pass(1);
        Due.is("9: its left side was water", 6, () -> y.cell(3, 0));
    }
}
