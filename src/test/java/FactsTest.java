/** Promises 10 to 14: the calls that tell of cells, blocks, ways, counts and what was taken. */
public final class FactsTest {
    private static final int[] WRONG_CELLS = {16, -1, Integer.MAX_VALUE, Integer.MIN_VALUE};

    private FactsTest() {
    }

    public static void main(String[] args) {
        cell();
        waterBeside();
        block();
        move();
        moveUp();
        moveOfSeveralCells();
        value();
        taken();
        takenFortyOnly();
        Due.end();
    }

    private static void cellFacts(String what, IceField x, int cell, int... due) {
        for (int i = 0; i < due.length; i++) {
            int index = i;
            Due.is(what + ": cell(" + cell + ", " + i + ")", due[i], () -> x.cell(cell, index));
        }
    }

    private static void blockFacts(String what, IceField x, int cell, int... due) {
        for (int i = 0; i < due.length; i++) {
            int index = i;
            Due.is(what + ": block(" + cell + ", " + i + ")", due[i], () -> x.block(cell, index));
        }
    }

    private static void moves(String what, IceField x, int cell, int... due) {
        for (int i = 0; i < due.length; i++) {
            int index = i;
            Due.is(what + ": move(" + cell + ", " + i + ")", due[i], () -> x.move(cell, index));
        }
        Due.is(what + ": no more moves", -1, () -> x.move(cell, due.length));
        Due.is(what + ": no such move", -1, () -> x.move(cell, Integer.MAX_VALUE));
    }

    private static void cell() {
        IceField x = new IceField();
        x.saw(5, 0);
        cellFacts("10 right", x, 5, 10, 1, 0, 0, 0, 0, 0);
        cellFacts("10 left", x, 6, 10, 0, 0, 0, 1, 0, 0);
        x.saw(5, 1);
        cellFacts("10 below", x, 5, 10, 1, 1, 0, 0, 0, 0);
        cellFacts("10 above", x, 9, 10, 0, 0, 1, 0, 0, 0);
        x.saw(0, 2);
        cellFacts("10 shore", x, 0, 10, 0, 0, 1, 0, 0, 0);
        x.sawAround(0, 4, 4);
        cellFacts("10 lower right", x, 15, 10, 0, 0, 0, 0, 0, 1);
        x.sawAround(15, 1, 1);
        cellFacts("10 corner", x, 15, 10, 0, 0, 1, 1, 15, 1);
        x.takeOut(15);
        cellFacts("10 water", x, 15, 0, 0, 0, 1, 1, -1, 1);
        for (int wrong : WRONG_CELLS) {
            Due.index("10: cell " + wrong, x, () -> x.cell(wrong, 0));
            Due.index("10: the cell comes first", x, () -> x.cell(wrong, 7));
        }
        int[] wrongWhats = {-1, 7, Integer.MAX_VALUE, Integer.MIN_VALUE};
        for (int what : wrongWhats) {
            Due.argument("10: what " + what, x, () -> x.cell(0, what));
        }
    }

    private static void waterBeside() {
        IceField x = Due.read("000/090/000");
        int[] due = {2, 2, 2, 2, 4, 2, 3, 3, 3};
        for (int i = 0; i < due.length; i++) {
            int cell = i;
            Due.is("10: water beside " + i, due[i], () -> x.cell(cell, 6));
        }
    }

    private static void block() {
        IceField x = Due.read("9990/0090/9871/9999");
        blockFacts("11 held", x, 6, 0, 12, 97, 1, -1);
        x.sawAround(9, 2, 1);
        blockFacts("11 stranded", x, 10, 9, 2, 15, 0, -1);
        x.sawAround(12, 4, 1);
        blockFacts("11 loose", x, 15, 12, 4, 36, 0, 1);
        blockFacts("11 behind it", x, 9, 9, 2, 15, 0, -1);
        x.takeOut(12);
        blockFacts("11 free", x, 10, 9, 2, 15, 0, 2);
        blockFacts("11 water", x, 12, -1, -1, -1, -1, -1);
        blockFacts("11 one cell", x, 8, 8, 1, 9, 0, 2);
        blockFacts("11 still held", x, 0, 0, 4, 36, 1, -1);
        for (int wrong : WRONG_CELLS) {
            Due.index("11: cell " + wrong, x, () -> x.block(wrong, 0));
            Due.index("11: the cell comes first", x, () -> x.block(wrong, 5));
        }
        int[] wrongWhats = {-1, 5, Integer.MAX_VALUE, Integer.MIN_VALUE};
        for (int what : wrongWhats) {
            Due.argument("11: what " + what, x, () -> x.block(12, what));
        }
    }

    private static void move() {
        IceField x = Due.read("090/090/000");
        moves("12 held", x, 1);
        x.sawAround(1, 1, 1);
        moves("12 left before right", x, 1, 0, 3, 3, 3);
        moves("12 water", x, 0);
        IceField y = Due.read("990/090/000");
        y.sawAround(1, 1, 1);
        moves("12 right", y, 1, 1, 3, 3, 3);
        IceField z = Due.read("99/99/99");
        z.sawAround(2, 2, 1);
        moves("12 stranded", z, 3);
        Due.index("12: a negative index", x, () -> x.move(0, -1));
        Due.index("12: the lowest index", x, () -> x.move(1, Integer.MIN_VALUE));
        Due.index("12: no such cell", x, () -> x.move(9, 0));
        Due.index("12: no such cell", x, () -> x.move(-1, 0));
    }

    private static void moveUp() {
        IceField x = Due.read("00000/09990/09990");
        x.sawAround(7, 1, 1);
        moves("12 up", x, 7, 2, 0, 0, 3, 3, 3);
        blockFacts("12 up", x, 7, 7, 1, 9, 0, 6);
        moves("12 around it", x, 6, 3, 3);
        // Row 0 of the middle is the shore's; left before up needs a way in which both come.
        IceField y = Due.read("000/900/990/900");
        y.sawAround(7, 1, 1);
        moves("12 right before up", y, 7, 3, 3);
    }

    private static void moveOfSeveralCells() {
        // An L of cells 1, 2 and 4 (3 wide): its own cells are no bar to it, but the walls are.
        IceField x = Due.read("099/090/000");
        x.saw(1, 2);
        x.saw(2, 2);
        blockFacts("12 L", x, 4, 1, 3, 27, 0, 3);
        moves("12 L", x, 4, 3, 3, 3);
        // Cell 6 bars cell 3 straight down; the whole block has to go right first, and cannot.
        IceField y = Due.read("999/999/900");
        y.sawAround(0, 3, 1);
        y.sawAround(3, 3, 1);
        y.sawAround(6, 1, 1);
        blockFacts("12 wide", y, 3, 3, 3, 27, 0, -1);
        y.sawAround(4, 2, 1);
        moves("12 two of them", y, 4, 3, 3);
        moves("12 the third", y, 3);
        y.takeOut(4);
        moves("12 the third then", y, 3, 1, 3, 3);
    }

    private static void value() {
        IceField x = Due.read("999/999/999");
        x.sawAround(4, 1, 1);
        x.sawAround(8, 1, 1);
        x.setMelt(2);
        x.lay(0, 3);
        x.takeOut(8);
        x.pass(1);
        // On that day cells 6 and 7 lose 2 or 3, cell 5 (water below it) 2, the others 2.
        int[] due = {3, 3, 8, 2, 1, 1, 6, 2, 1, 84, 84 - 9 - 17, 9, 17, 1};
        for (int i = 0; i < due.length; i++) {
            int what = i;
            Due.is("13: value(" + i + ")", due[i], () -> x.value(what));
        }
        int[] wrong = {-1, 14, Integer.MAX_VALUE, Integer.MIN_VALUE};
        for (int what : wrong) {
            Due.argument("13: what " + what, x, () -> x.value(what));
        }
    }

    private static void taken() {
        IceField x = new IceField();
        x.pass(2);
        x.sawAround(14, 2, 1);
        x.takeOut(15);
        Due.is("14: number", 14, () -> x.taken(0, 0));
        Due.is("14: volume", 16, () -> x.taken(0, 1));
        Due.is("14: day", 2, () -> x.taken(0, 2));
        int[] wrong = {-1, 3, Integer.MAX_VALUE, Integer.MIN_VALUE};
        for (int what : wrong) {
            Due.argument("14: what " + what, x, () -> x.taken(0, what));
            Due.index("14: the index comes first", x, () -> x.taken(1, what));
        }
        int[] wrongIndexes = {1, -1, 40, Integer.MAX_VALUE, Integer.MIN_VALUE};
        for (int index : wrongIndexes) {
            Due.index("14: index " + index, x, () -> x.taken(index, 0));
        }
    }

    private static void takenFortyOnly() {
        IceField x = new IceField();
        x.make(7, 7, 2);
        for (int cell = 0; cell < 49; cell += 2) {
            x.sawAround(cell, 1, 1);
        }
        x.sawAround(0, 7, 1);
        Due.is("14: single cells", 49, () -> x.value(3));
        Due.is("14: all are taken", 49, x::takeAll);
        Due.is("14: the first one", 42, () -> x.taken(0, 0));
        Due.is("14: the eighth one", 1, () -> x.taken(7, 0));
        // The first seven come up the left column; behind them all others follow from the lowest.
        Due.is("14: the fortieth one", 38, () -> x.taken(39, 0));
        Due.is("14: the fortieth one's volume", 2, () -> x.taken(39, 1));
        Due.index("14: the next one is not kept", x, () -> x.taken(40, 0));
        Due.is("14: but counted", 49, () -> x.value(13));
        Due.is("14: its volume, too", 98, () -> x.value(11));
    }
}
