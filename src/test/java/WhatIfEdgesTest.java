/**
 * Promises 15 to 21 at their boundaries: one test for each sentence of the document that names one. The
 * comment in front of a test gives the words that it holds the class to.
 */
public final class WhatIfEdgesTest {
    private static final int MAX = Integer.MAX_VALUE;
    private static final int MIN = Integer.MIN_VALUE;

    private WhatIfEdgesTest() {
    }

    public static void main(String[] args) {
        Due.runAll(WhatIfEdgesTest.class, 15, 21);
    }

    // ---- promise 15: cutsAround

    /** "width: 1 to 7"; "height: 1 to 7" */
    static void promise15OneCellIsTheLeast() {
        IceField x = new IceField();
        Due.asks("cuts", x, 4, () -> x.cutsAround(5, 1, 1));
    }

    /** "width: 1 to 7" */
    static void promise15WidthOfSevenIsTheMost() {
        IceField x = Due.made(7, 2, 1);
        Due.asks("cuts", x, 14, () -> x.cutsAround(0, 7, 1));
        Due.asks("cuts", x, 7, () -> x.cutsAround(7, 7, 1));
    }

    /** "height: 1 to 7" */
    static void promise15HeightOfSevenIsTheMost() {
        IceField x = Due.made(2, 7, 1);
        Due.asks("cuts", x, 8, () -> x.cutsAround(0, 1, 7));
        Due.asks("cuts", x, 8, () -> x.cutsAround(1, 1, 7));
    }

    /** "IllegalArgumentException if width or height is out of range" */
    static void promise15WidthTooSmall() {
        IceField x = new IceField();
        Due.arguments(x, n -> x.cutsAround(5, n, 1), 0, -1, -7, MIN);
    }

    /** "IllegalArgumentException if width or height is out of range" */
    static void promise15WidthTooLarge() {
        IceField x = Due.made(7, 7, 1);
        Due.arguments(x, n -> x.cutsAround(0, n, 1), 8, 49, 256 + 1, MAX, MAX - 3);
        Due.arguments(x, n -> x.cutsAround(48, n, 1), 8, MAX);
    }

    /** "IllegalArgumentException if width or height is out of range" */
    static void promise15HeightTooSmall() {
        IceField x = new IceField();
        Due.arguments(x, n -> x.cutsAround(5, 1, n), 0, -1, -7, MIN);
    }

    /** "IllegalArgumentException if width or height is out of range" */
    static void promise15HeightTooLarge() {
        IceField x = Due.made(7, 7, 1);
        Due.arguments(x, n -> x.cutsAround(0, 1, n), 8, 49, 256 + 1, MAX, MAX - 3);
        Due.arguments(x, n -> x.cutsAround(48, 1, n), 8, MAX);
    }

    /** "or the rectangle is not within the field" */
    static void promise15BeyondTheRightWall() {
        IceField x = new IceField();
        Due.asks("up to the wall", x, 5, () -> x.cutsAround(6, 2, 1));
        Due.arguments(x, n -> x.cutsAround(6, n, 1), 3, 4, 7);
        Due.arguments(x, n -> x.cutsAround(n, 2, 1), 3, 7, 11, 15);
    }

    /** "or the rectangle is not within the field" */
    static void promise15BeyondTheLastRow() {
        IceField x = new IceField();
        Due.asks("up to the last row", x, 5, () -> x.cutsAround(9, 1, 2));
        Due.arguments(x, n -> x.cutsAround(9, 1, n), 3, 4, 7);
        Due.arguments(x, n -> x.cutsAround(n, 1, 2), 12, 13, 15);
    }

    /** "IndexOutOfBoundsException if there is no such cell" */
    static void promise15NoSuchCell() {
        IceField x = new IceField();
        Due.indexes(x, n -> x.cutsAround(n, 1, 1), -1, 16, 17, 48, 49, 256, MAX, MIN);
    }

    /** "the one that is listed first is thrown" */
    static void promise15TheCellIsLookedAtFirst() {
        IceField x = new IceField();
        Due.indexes(x, n -> x.cutsAround(16, n, 1), 0, 8, 7);
        Due.indexes(x, n -> x.cutsAround(-1, 1, n), 0, 8, 7);
    }

    /** "how many cuts .. sawAround() would make": for all of the field, those along the shore. */
    static void promise15AllOfTheField() {
        IceField x = Due.made(7, 7, 1);
        Due.asks("cuts of the greatest", x, 7, () -> x.cutsAround(0, 7, 7));
        IceField y = Due.made(2, 2, 1);
        Due.asks("cuts of the smallest", y, 2, () -> y.cutsAround(0, 2, 2));
    }

    /** "cuts that are not there yet" */
    static void promise15CutsThatAreThereDoNotCount() {
        IceField x = new IceField();
        x.saw(5, 2);
        x.saw(8, 0);
        Due.asks("the others", x, 6, () -> x.cutsAround(5, 2, 2));
        x.sawAround(5, 2, 2);
        Due.asks("none then", x, 0, () -> x.cutsAround(5, 2, 2));
    }

    /** Telling is not sawing: it saves nothing. */
    static void promise15SavesNothing() {
        IceField x = new IceField();
        x.cutsAround(5, 2, 2);
        Due.is("cuts", 0, () -> x.value(6));
        Due.state("nothing saved", x, x::undo);
    }

    // ---- promise 16: takable

    /** "how many blocks": none, because all ice is held */
    static void promise16NoneIsLoose() {
        IceField x = new IceField();
        Due.asks("takable", x, 0, x::takable);
    }

    /** "how many blocks": none, because there is no ice */
    static void promise16NoIce() {
        IceField x = Due.made(7, 7, 0);
        Due.asks("takable", x, 0, x::takable);
    }

    /** Stranded blocks are not taken. */
    static void promise16StrandedOnesDoNotCount() {
        IceField x = new IceField();
        x.sawAround(5, 1, 1);
        x.sawAround(15, 1, 1);
        Due.asks("takable", x, 1, x::takable);
    }

    /** "would take": one that is stranded only until another one is out is taken, too. */
    static void promise16SetFreeByAnother() {
        IceField x = new IceField();
        x.sawAround(5, 1, 1);
        x.sawAround(9, 1, 1);
        Due.asks("both stranded", x, 0, x::takable);
        x.sawAround(13, 1, 1);
        Due.asks("none is any more", x, 3, x::takable);
    }

    /** The most blocks that a field can have. */
    static void promise16FortyNineBlocks() {
        IceField x = Due.singleCells();
        Due.asks("takable", x, 49, x::takable);
        Due.is("none was taken", 0, () -> x.value(13));
        Due.is("as many are taken", 49, x::takeAll);
        Due.asks("none is left", x, 0, x::takable);
    }

    /** Telling is not taking: it saves nothing. */
    static void promise16SavesNothing() {
        IceField x = new IceField();
        x.takable();
        Due.state("nothing saved", x, x::undo);
    }

    // ---- promise 17: leftStranded

    /** "the number of loose blocks that would be left": none is loose */
    static void promise17NoneIsLoose() {
        IceField x = new IceField();
        Due.asks("left", x, 0, x::leftStranded);
    }

    /** "the number of loose blocks that would be left": there is no ice */
    static void promise17NoIce() {
        IceField x = Due.made(2, 2, 0);
        Due.asks("left", x, 0, x::leftStranded);
    }

    /** "the number of loose blocks that would be left": none, because all are taken */
    static void promise17AllAreTaken() {
        IceField x = Due.singleCells();
        Due.is("stranded now", 42, () -> x.value(5));
        Due.asks("left", x, 0, x::leftStranded);
    }

    /** "loose blocks": held ones are left, too, and do not count. */
    static void promise17HeldOnesDoNotCount() {
        IceField x = new IceField();
        x.sawAround(12, 4, 1);
        Due.asks("left", x, 0, x::leftStranded);
    }

    /** "would be left": those that are stranded now, but for the ones that others set free. */
    static void promise17OneIsSetFreeByAnother() {
        IceField x = new IceField();
        x.sawAround(5, 1, 1);
        x.sawAround(10, 1, 1);
        Due.asks("two", x, 2, x::leftStranded);
        x.sawAround(14, 1, 1);
        Due.is("two are stranded now", 2, () -> x.value(5));
        Due.asks("one of them is left", x, 1, x::leftStranded);
        x.takeAll();
        Due.asks("it is left", x, 1, x::leftStranded);
    }

    /** Telling is not taking: it saves nothing. */
    static void promise17SavesNothing() {
        IceField x = new IceField();
        x.leftStranded();
        Due.state("nothing saved", x, x::undo);
    }

    // ---- promise 18: daysWhole

    /** "the number of days, 1 to 60": one */
    static void promise18OneDayIsTheLeast() {
        IceField x = Due.read("00/01");
        Due.asks("days", x, 1, () -> x.daysWhole(3));
        x.setMelt(9);
        Due.asks("days", x, 1, () -> x.daysWhole(3));
    }

    /** A field whose cells 0 and 1 are loose, and melt only when cell 4 below has melted for 50 days. */
    private static IceField slowField(int thickness) {
        IceField x = Due.made(3, 2, 0);
        x.setMelt(0);
        x.lay(0, 50);
        x.lay(1, thickness);
        x.lay(4, 50);
        x.saw(0, 2);
        x.saw(1, 2);
        x.saw(1, 1);
        return x;
    }

    /** "the number of days, 1 to 60": sixty; "all of the field melts on these days" */
    static void promise18SixtyDaysAreTheMost() {
        IceField x = slowField(10);
        Due.asks("behind the other block", x, 60, () -> x.daysWhole(0));
        Due.asks("by its other cell", x, 60, () -> x.daysWhole(1));
        Due.asks("the other block", x, 50, () -> x.daysWhole(4));
    }

    /** "NONE if .. it would be more than 60" */
    static void promise18SixtyOneDaysAreNone() {
        IceField x = slowField(11);
        Due.asks("days", x, -1, () -> x.daysWhole(0));
        x.pass(1);
        Due.asks("a day later", x, 60, () -> x.daysWhole(0));
    }

    /** "NONE if .. it would be more than 60": never */
    static void promise18NeverIsNone() {
        IceField x = new IceField();
        x.setMelt(0);
        x.sawAround(0, 4, 4);
        Due.asks("days", x, -1, () -> x.daysWhole(0));
    }

    /** "NONE if the cell is water" */
    static void promise18Water() {
        IceField x = Due.read("00/01");
        Due.asks("days", x, -1, () -> x.daysWhole(2));
    }

    /** "NONE if .. the block is held" */
    static void promise18Held() {
        IceField x = new IceField();
        Due.asks("days", x, -1, () -> x.daysWhole(15));
        x.sawAround(0, 4, 4);
        Due.asks("loose", x, 10, () -> x.daysWhole(15));
    }

    /** "a block that is loose now": one that is held now is not, though its row 0 melts first. */
    static void promise18LooseNow() {
        IceField x = Due.read("11/99");
        Due.asks("held", x, -1, () -> x.daysWhole(2));
        x.pass(1);
        Due.asks("loose", x, 4, () -> x.daysWhole(2));
    }

    /** "a block that is loose now": a stranded one is loose. */
    static void promise18Stranded() {
        IceField x = new IceField();
        x.sawAround(5, 1, 1);
        Due.asks("days", x, 10, () -> x.daysWhole(5));
    }

    /** "a day behind which some cell of it is water": the first one of them, first or last of the block. */
    static void promise18SomeCellOfIt() {
        IceField x = Due.read("000/000/993");
        Due.asks("its last cell", x, 2, () -> x.daysWhole(6));
        IceField y = Due.read("000/000/399");
        Due.asks("its first cell", y, 2, () -> y.daysWhole(8));
    }

    /** "some cell of it": cell 0, too. */
    static void promise18TheFirstCellOfTheField() {
        IceField x = Due.read("199/000");
        x.saw(0, 2);
        x.saw(1, 2);
        x.saw(2, 2);
        Due.asks("days", x, 1, () -> x.daysWhole(2));
    }

    /** "some cell of it": not of another block. */
    static void promise18NotOfAnotherBlock() {
        IceField x = Due.read("100/000/901");
        Due.asks("days", x, 5, () -> x.daysWhole(6));
    }

    /** "IndexOutOfBoundsException if there is no such cell" */
    static void promise18NoSuchCell() {
        IceField x = new IceField();
        Due.indexes(x, x::daysWhole, -1, 16, 17, 48, 49, 256, MAX, MIN);
    }

    /** The days are asked about, not passed. */
    static void promise18SavesNothing() {
        IceField x = new IceField();
        x.sawAround(0, 4, 4);
        x.daysWhole(0);
        Due.is("days so far", 0, () -> x.value(8));
        Due.is("only what was sawn is saved", 0, x::undo);
    }

    // ---- promise 19: daysToWater

    /** "0 if there is none" */
    static void promise19NoIce() {
        IceField x = Due.made(7, 7, 0);
        Due.asks("days", x, 0, x::daysToWater);
        x.setMelt(0);
        Due.asks("without melt", x, 0, x::daysToWater);
    }

    /** "the days": one */
    static void promise19OneDay() {
        IceField x = Due.made(7, 7, 1);
        Due.asks("days", x, 1, x::daysToWater);
    }

    /** "until there is no ice": up to the last cell */
    static void promise19TheLastCellCounts() {
        IceField x = Due.made(4, 4, 1);
        x.lay(0, 6);
        Due.asks("days", x, 1 + 3, x::daysToWater);
        IceField y = Due.made(4, 4, 1);
        y.lay(15, 6);
        Due.asks("days", y, 1 + 3, y::daysToWater);
    }

    /** "NONE if it would be more than 60": sixty is not. */
    static void promise19SixtyDaysAreTheMost() {
        IceField x = Due.made(2, 2, 0);
        x.setMelt(0);
        x.lay(2, 50);
        x.lay(0, 10);
        Due.asks("days", x, 60, x::daysToWater);
    }

    /** "NONE if it would be more than 60" */
    static void promise19SixtyOneDaysAreNone() {
        IceField x = Due.made(2, 2, 0);
        x.setMelt(0);
        x.lay(2, 50);
        x.lay(0, 11);
        Due.asks("days", x, -1, x::daysToWater);
        x.pass(1);
        Due.asks("a day later", x, 60, x::daysToWater);
    }

    /** "NONE if it would be more than 60": never */
    static void promise19NeverIsNone() {
        IceField x = new IceField();
        x.setMelt(0);
        Due.asks("days", x, -1, x::daysToWater);
    }

    /** The days are asked about, not passed. */
    static void promise19SavesNothing() {
        IceField x = new IceField();
        x.daysToWater();
        Due.is("days so far", 0, () -> x.value(8));
        Due.state("nothing saved", x, x::undo);
    }

    // ---- promise 20: barredBy

    /** "NONE if no block is stranded": none is loose */
    static void promise20NoneIsLoose() {
        IceField x = new IceField();
        Due.asks("barred", x, -1, x::barredBy);
    }

    /** "NONE if no block is stranded": all loose ones have a way */
    static void promise20LooseOnesHaveAWay() {
        IceField x = new IceField();
        x.sawAround(12, 4, 1);
        Due.asks("barred", x, -1, x::barredBy);
        IceField y = Due.read("90/09");
        y.saw(0, 2);
        Due.asks("all of them are loose", y, -1, y::barredBy);
    }

    /** "NONE if no block is stranded": there is no ice */
    static void promise20NoIce() {
        IceField x = Due.made(2, 2, 0);
        Due.asks("barred", x, -1, x::barredBy);
    }

    /** "NONE if .. no one cell is enough for this block" */
    static void promise20NoOneCellIsEnough() {
        IceField x = new IceField();
        x.sawAround(5, 1, 1);
        Due.asks("two are between", x, -1, x::barredBy);
        x.sawAround(13, 1, 1);
        x.takeOut(13);
        Due.asks("one is between", x, 9, x::barredBy);
    }

    /** "the stranded block with the lowest number": a higher one is not asked about. */
    static void promise20TheLowestStrandedBlock() {
        IceField x = new IceField();
        x.sawAround(9, 1, 1);
        Due.asks("the only one", x, 13, x::barredBy);
        x.sawAround(6, 1, 1);
        Due.asks("a lower one, which no cell is enough for", x, -1, x::barredBy);
    }

    /** "the stranded block with the lowest number": number 0 */
    static void promise20TheBlockWithTheNumberZero() {
        IceField x = Due.read("99/99/00");
        x.sawAround(0, 1, 1);
        Due.asks("barred", x, 2, x::barredBy);
    }

    /** "the stranded block with the lowest number": lower ones that are held or have a way are none. */
    static void promise20LowerOnesThatAreNotStranded() {
        IceField x = Due.read("9990/0990/0999/0999");
        x.sawAround(0, 1, 1);
        x.sawAround(10, 1, 1);
        Due.is("cell 0 has a way", 4, () -> x.block(0, 4));
        Due.is("cell 1 is held", 1, () -> x.block(1, 3));
        Due.asks("barred", x, 9, x::barredBy);
    }

    /** "the lowest such cell": of several that would be enough */
    static void promise20TheLowestCell() {
        IceField x = Due.read("999/090/999/000");
        x.sawAround(4, 1, 1);
        Due.is("stranded", -1, () -> x.block(4, 4));
        Due.asks("barred", x, 6, x::barredBy);
    }

    /** "the lowest such cell": cell 0 */
    static void promise20TheFirstCell() {
        IceField x = Due.read("99/09");
        x.sawAround(1, 1, 1);
        Due.asks("barred", x, 0, x::barredBy);
    }

    /** "the lowest such cell": the last one of the field */
    static void promise20TheLastCell() {
        IceField x = Due.read("99/99");
        x.sawAround(1, 1, 1);
        Due.asks("barred", x, 3, x::barredBy);
    }

    /** "that is not of this block": without its own cell it would have a way, which does not count. */
    static void promise20NotOfThisBlock() {
        // The foot of block 1, cell 6, is what keeps it behind the wall.
        IceField x = Due.read("099/090/999");
        x.saw(1, 2);
        x.saw(2, 2);
        x.saw(7, 0);
        Due.is("stranded", -1, () -> x.block(1, 4));
        Due.asks("barred", x, 8, x::barredBy);
    }

    /** "the ice cell": of a held block, of a loose one, or of a stranded one */
    static void promise20WhateverBlockTheCellIsOf() {
        IceField x = new IceField();
        x.sawAround(9, 1, 1);
        Due.asks("of a held one", x, 13, x::barredBy);
        x.sawAround(13, 1, 1);
        Due.asks("of a loose one", x, 13, x::barredBy);
        IceField y = Due.read("009/909/999/099");
        y.saw(3, 1);
        y.saw(7, 0);
        y.saw(7, 1);
        Due.is("both are stranded", 2, () -> y.value(5));
        Due.asks("of a stranded one", y, 6, y::barredBy);
    }

    /** "(its cuts do not matter)" */
    static void promise20ItsCutsDoNotMatter() {
        IceField x = new IceField();
        x.sawAround(9, 1, 1);
        x.saw(13, 0);
        Due.asks("one cut", x, 13, x::barredBy);
        x.saw(13, 3);
        Due.asks("all cuts", x, 13, x::barredBy);
    }

    /** "would have to be water": it is asked about, not melted. */
    static void promise20SavesNothing() {
        IceField x = new IceField();
        x.sawAround(9, 1, 1);
        x.barredBy();
        Due.is("its thickness", 10, () -> x.cell(13, 0));
        Due.is("only what was sawn is saved", 0, x::undo);
    }

    // ---- promise 21: harvest

    private static void share(String what, IceField x, double due) {
        Due.asks(what, x, Double.doubleToRawLongBits(due), () -> Double.doubleToRawLongBits(x.harvest()));
    }

    /** "0.0 if nothing was laid" */
    static void promise21NothingWasLaid() {
        IceField x = Due.made(2, 2, 0);
        share("harvest", x, 0.0);
    }

    /** Nothing was taken. */
    static void promise21NothingWasTaken() {
        share("harvest", new IceField(), 0.0);
    }

    /** All was taken. */
    static void promise21AllWasTaken() {
        IceField x = Due.made(7, 7, 50);
        x.sawAround(0, 7, 7);
        x.takeAll();
        share("harvest", x, 1.0);
    }

    /** "converted to double, divided by": not a division of whole numbers. */
    static void promise21IsDividedAsDouble() {
        IceField x = Due.read("99/91");
        x.sawAround(3, 1, 1);
        x.takeOut(3);
        share("a little", x, 1.0 / 28.0);
        x.sawAround(0, 2, 2);
        x.takeAll();
        share("all", x, 1.0);
    }

    /** "the share of what was laid": what has melted was laid, too. */
    static void promise21WhatHasMeltedWasLaid() {
        IceField x = new IceField();
        x.sawAround(12, 4, 1);
        x.pass(3);
        x.takeOut(12);
        x.pass(50);
        share("harvest", x, 28.0 / 160.0);
    }

    /** Ice laid behind the harvest makes the share smaller; a new field makes it 0 again. */
    static void promise21WhatIsLaidLater() {
        IceField x = Due.read("00/09");
        x.takeOut(3);
        share("all", x, 1.0);
        x.lay(0, 50);
        share("more was laid", x, 9.0 / 59.0);
        x.make(2, 2, 1);
        share("a new field", x, 0.0);
        x.undo();
        share("undone", x, 9.0 / 59.0);
    }
}
