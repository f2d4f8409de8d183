/** Promises 10 to 14: the calls that tell of cells, blocks, ways, counts and what was taken. */
public final class FactsTest {
    private FactsTest() {
    }

    public static void main(String[] args) {
        Due.runAll(FactsTest.class, 10, 14);
    }

    private static void cellFacts(String what, IceField x, int cell, int... due) {
        for (int i = 0; i < due.length; i++) {
            int index = i;
            Due.is(what + ": cell(" + cell + ", " + i + ")", due[i], () -> x.cell(cell, index));
        }
    }

    private static void blockFacts(String what, IceField x, int cell, int... due) {
        for (int i = 0; i < due.length; i++) {
            int index = i;
            Due.is(what + ": block(" + cell + ", " + i + ")", due[i], () -> x.block(cell, index));
        }
    }

    private static void moves(String what, IceField x, int cell, int... due) {
        for (int i = 0; i < due.length; i++) {
            int index = i;
            Due.is(what + ": move(" + cell + ", " + i + ")", due[i], () -> x.move(cell, index));
        }
        Due.is(what + ": no more moves", -1, () -> x.move(cell, due.length));
        Due.is(what + ": no such move", -1, () -> x.move(cell, Integer.MAX_VALUE));
    }

    static void promise10Cell() {
        IceField x = new IceField();
        x.saw(5, 0);
        cellFacts("right", x, 5, 10, 1, 0, 0, 0, 0, 0);
        cellFacts("left", x, 6, 10, 0, 0, 0, 1, 0, 0);
        x.saw(5, 1);
        cellFacts("below", x, 5, 10, 1, 1, 0, 0, 0, 0);
        cellFacts("above", x, 9, 10, 0, 0, 1, 0, 0, 0);
        x.saw(0, 2);
        cellFacts("shore", x, 0, 10, 0, 0, 1, 0, 0, 0);
        x.sawAround(0, 4, 4);
        cellFacts("lower right", x, 15, 10, 0, 0, 0, 0, 0, 1);
        x.sawAround(15, 1, 1);
        cellFacts("corner", x, 15, 10, 0, 0, 1, 1, 15, 1);
        x.takeOut(15);
        cellFacts("water", x, 15, 0, 0, 0, 1, 1, -1, 1);
    }

    static void promise10WaterBeside() {
        IceField x = Due.read("000/090/000");
        int[] due = {2, 2, 2, 2, 4, 2, 3, 3, 3};
        for (int i = 0; i < due.length; i++) {
            int cell = i;
            Due.is("water beside " + i, due[i], () -> x.cell(cell, 6));
        }
    }

    static void promise11Block() {
        IceField x = Due.read("9990/0090/9871/9999");
        blockFacts("held", x, 6, 0, 12, 97, 1, -1);
        x.sawAround(9, 2, 1);
        blockFacts("stranded", x, 10, 9, 2, 15, 0, -1);
        x.sawAround(12, 4, 1);
        blockFacts("loose", x, 15, 12, 4, 36, 0, 1);
        blockFacts("behind it", x, 9, 9, 2, 15, 0, -1);
        x.takeOut(12);
        blockFacts("free", x, 10, 9, 2, 15, 0, 2);
        blockFacts("water", x, 12, -1, -1, -1, -1, -1);
        blockFacts("one cell", x, 8, 8, 1, 9, 0, 2);
        blockFacts("still held", x, 0, 0, 4, 36, 1, -1);
    }

    static void promise12Move() {
        IceField x = Due.read("090/090/000");
        moves("held", x, 1);
        x.sawAround(1, 1, 1);
        moves("left before right", x, 1, 0, 3, 3, 3);
        moves("water", x, 0);
        IceField y = Due.read("990/090/000");
        y.sawAround(1, 1, 1);
        moves("right", y, 1, 1, 3, 3, 3);
        IceField z = Due.read("99/99/99");
        z.sawAround(2, 2, 1);
        moves("stranded", z, 3);
        Due.index("a negative index", x, () -> x.move(0, -1));
        Due.index("the lowest index", x, () -> x.move(1, Integer.MIN_VALUE));
        Due.index("no such cell", x, () -> x.move(9, 0));
        Due.index("no such cell", x, () -> x.move(-1, 0));
    }

    static void promise12MoveUp() {
        IceField x = Due.read("00000/09990/09990");
        x.sawAround(7, 1, 1);
        moves("up", x, 7, 2, 0, 0, 3, 3, 3);
        blockFacts("up", x, 7, 7, 1, 9, 0, 6);
        moves("around it", x, 6, 3, 3);
    }

    static void promise12MoveOfSeveralCells() {
        // An L of cells 1, 2 and 4 (3 wide): its own cells are no bar to it, but the walls are.
        IceField x = Due.read("099/090/000");
        x.saw(1, 2);
        x.saw(2, 2);
        blockFacts("L", x, 4, 1, 3, 27, 0, 3);
        moves("L", x, 4, 3, 3, 3);
        // Cell 6 bars cell 3 straight down; the whole block has to go right first, and cannot.
        IceField y = Due.read("999/999/900");
        y.sawAround(0, 3, 1);
        y.sawAround(3, 3, 1);
        y.sawAround(6, 1, 1);
        blockFacts("wide", y, 3, 3, 3, 27, 0, -1);
        y.sawAround(4, 2, 1);
        moves("two of them", y, 4, 3, 3);
        moves("the third", y, 3);
        y.takeOut(4);
        moves("the third then", y, 3, 1, 3, 3);
    }

    static void promise13Value() {
        IceField x = Due.read("999/999/999");
        x.sawAround(4, 1, 1);
        x.sawAround(8, 1, 1);
        x.setMelt(2);
        x.lay(0, 3);
        x.takeOut(8);
        x.pass(1);
        // On that day cells 6 and 7 lose 2 or 3, cell 5 (water below it) 2, the others 2.
        int[] due = {3, 3, 8, 2, 1, 1, 6, 2, 1, 84, 84 - 9 - 17, 9, 17, 1};
        for (int i = 0; i < due.length; i++) {
            int what = i;
            Due.is("value(" + i + ")", due[i], () -> x.value(what));
        }
    }

    static void promise14Taken() {
        IceField x = new IceField();
        x.pass(2);
        x.sawAround(14, 2, 1);
        x.takeOut(15);
        Due.is("number", 14, () -> x.taken(0, 0));
        Due.is("volume", 16, () -> x.taken(0, 1));
        Due.is("day", 2, () -> x.taken(0, 2));
    }

    static void promise14TakenFortyOnly() {
        IceField x = new IceField();
        x.make(7, 7, 2);
        for (int cell = 0; cell < 49; cell += 2) {
            x.sawAround(cell, 1, 1);
        }
        x.sawAround(0, 7, 1);
        Due.is("single cells", 49, () -> x.value(3));
        Due.is("all are taken", 49, x::takeAll);
        Due.is("the first one", 42, () -> x.taken(0, 0));
        Due.is("the eighth one", 1, () -> x.taken(7, 0));
        // The first seven come up the left column; behind them all others follow from the lowest.
        Due.is("the fortieth one", 38, () -> x.taken(39, 0));
        Due.is("the fortieth one's volume", 2, () -> x.taken(39, 1));
        Due.index("the next one is not kept", x, () -> x.taken(40, 0));
        Due.is("but counted", 49, () -> x.value(13));
        Due.is("its volume, too", 98, () -> x.value(11));
    }
}
