/**
 * Promises 10 to 14 at their boundaries: one test for each sentence of the document that names one. The
 * comment in front of a test gives the words that it holds the class to.
 */
public final class FactsEdgesTest {
    private static final int MAX = Integer.MAX_VALUE;
    private static final int MIN = Integer.MIN_VALUE;
    private static final int LEFT = 0;
    private static final int RIGHT = 1;
    private static final int UP = 2;
    private static final int DOWN = 3;

    private FactsEdgesTest() {
    }

    public static void main(String[] args) {
        Due.runAll(FactsEdgesTest.class, 10, 14);
    }

    private static void way(IceField x, int cell, long... due) {
        Due.is("way", due.length, () -> x.block(cell, 4));
        Due.are("move", n -> x.move(cell, n), due);
        Due.is("no more moves", -1, () -> x.move(cell, due.length));
    }

    private static void noWay(IceField x, int cell) {
        Due.is("loose", 0, () -> x.block(cell, 3));
        Due.is("no way", -1, () -> x.block(cell, 4));
        Due.is("no move", -1, () -> x.move(cell, 0));
    }

    // ---- promise 10: cell

    /** "what: 0 its thickness .. 6 the cells beside it that are water" */
    static void promise10WhatFromZeroToSix() {
        IceField x = Due.read("1234/0567/8901/2340");
        x.sawAround(6, 1, 1);
        Due.are("the cell sawn around", n -> x.cell(6, n), 6, 1, 1, 1, 1, 6, 1);
        Due.are("the cell above it", n -> x.cell(2, n), 3, 0, 1, 0, 0, 0, 0);
    }

    /** "IllegalArgumentException if what is out of range" */
    static void promise10WhatTooSmall() {
        IceField x = new IceField();
        Due.arguments(x, n -> x.cell(0, n), -1, -6, MIN);
    }

    /** "IllegalArgumentException if what is out of range" */
    static void promise10WhatTooLarge() {
        IceField x = new IceField();
        Due.arguments(x, n -> x.cell(0, n), 7, 8, 256, MAX);
    }

    /** "IndexOutOfBoundsException if there is no such cell" */
    static void promise10NoSuchCell() {
        IceField x = new IceField();
        Due.indexes(x, n -> x.cell(n, 0), -1, 16, 17, 48, 49, 256, MAX, MIN);
        Due.indexes(x, n -> x.cell(n, 5), -1, 16);
        IceField y = Due.made(2, 2, 1);
        Due.indexes(y, n -> y.cell(n, 6), -1, 4);
    }

    /** "Cells are numbered from 0, row by row: .. r * width + c" */
    static void promise10FirstAndLastCell() {
        IceField x = Due.read("123/456");
        Due.are("thickness", n -> x.cell(n, 0), 1, 2, 3, 4, 5, 6);
        IceField y = Due.read("12/34/56");
        Due.are("thickness", n -> y.cell(n, 0), 1, 2, 3, 4, 5, 6);
    }

    /** "the one that is listed first is thrown" */
    static void promise10TheCellIsLookedAtFirst() {
        IceField x = new IceField();
        Due.indexes(x, n -> x.cell(16, n), -1, 7);
        Due.indexes(x, n -> x.cell(-1, n), -1, 7);
    }

    /** "A cell has a thickness, 0 to 50" */
    static void promise10ThicknessOfZeroAndFifty() {
        IceField x = Due.made(2, 2, 0);
        x.lay(3, 50);
        Due.are("thickness", n -> x.cell(n, 0), 0, 0, 0, 50);
    }

    /** "0 at walls" */
    static void promise10NoCutAtWalls() {
        IceField x = Due.singleCells();
        Due.are("right wall", n -> x.cell(7 * n + 6, 1), 0, 0, 0, 0, 0, 0, 0);
        Due.are("left wall", n -> x.cell(7 * n, 4), 0, 0, 0, 0, 0, 0, 0);
        Due.are("right of the first ones", n -> x.cell(7 * n, 1), 1, 1, 1, 1, 1, 1, 1);
        Due.are("left of the last ones", n -> x.cell(7 * n + 6, 4), 1, 1, 1, 1, 1, 1, 1);
    }

    /** "0 at .. open water" */
    static void promise10NoCutAtOpenWater() {
        IceField x = Due.singleCells();
        Due.are("below the last row", n -> x.cell(42 + n, 2), 0, 0, 0, 0, 0, 0, 0);
        Due.are("below the row ahead", n -> x.cell(35 + n, 2), 1, 1, 1, 1, 1, 1, 1);
    }

    /** "so can the ice between a cell of row 0 and the shore": that cut is above the cell. */
    static void promise10CutAlongTheShoreIsAbove() {
        IceField x = new IceField();
        x.saw(2, 2);
        Due.are("above row 0", n -> x.cell(n, 3), 0, 0, 1, 0);
        Due.are("the cell itself", n -> x.cell(2, n), 10, 0, 0, 1, 0, 0, 0);
    }

    /** "5 its block (NONE if it is water)" */
    static void promise10WaterHasNoBlock() {
        IceField x = Due.read("01/10");
        Due.are("block", n -> x.cell(n, 5), -1, 1, 2, -1);
    }

    /** "its number is its lowest cell": not its leftmost one, nor the one that is asked about. */
    static void promise10TheBlockIsItsLowestCell() {
        IceField x = Due.read("009/999");
        Due.are("block", n -> x.cell(n, 5), -1, -1, 2, 2, 2, 2);
        IceField y = Due.read("0000/9009/9999");
        Due.is("around a bay", 4, () -> y.cell(7, 5));
    }

    /** "hang together, directly or through others": a cut is no cut through, if there is a way around it. */
    static void promise10HangsTogetherAroundACut() {
        IceField x = Due.read("99/99");
        x.saw(0, 0);
        Due.are("block", n -> x.cell(n, 5), 0, 0, 0, 0);
        x.saw(2, 0);
        Due.are("block", n -> x.cell(n, 5), 0, 1, 0, 1);
    }

    /** "Two ice cells beside each other (in a row or in a column)": nor at a corner, nor around a wall. */
    static void promise10CornersAndRowEndsDoNotHangTogether() {
        IceField x = Due.read("90/09");
        Due.are("corner", n -> x.cell(n, 5), 0, -1, -1, 3);
        IceField y = Due.read("009/900");
        Due.are("row end", n -> y.cell(n, 5), -1, -1, 2, 3, -1, -1);
    }

    /** "6 the cells beside it that are water": none */
    static void promise10NoWaterBeside() {
        IceField x = new IceField();
        Due.are("above the last row", n -> x.cell(n, 6), 0, 0, 0, 0, 0, 0, 0, 0, 0, 0, 0, 0);
    }

    /** "6 the cells beside it that are water": all four */
    static void promise10FourCellsOfWaterBeside() {
        IceField x = Due.read("000/090/000");
        Due.is("in the middle", 4, () -> x.cell(4, 6));
        IceField y = Due.read("900/090");
        Due.is("with the open water", 4, () -> y.cell(4, 6));
    }

    /** "the open water below the last row counts as water" */
    static void promise10OpenWaterIsBesideTheLastRow() {
        IceField x = new IceField();
        Due.are("last row", n -> x.cell(12 + n, 6), 1, 1, 1, 1);
    }

    /** "shore and walls do not" */
    static void promise10ShoreAndWallsAreNoWater() {
        IceField x = Due.made(3, 3, 0);
        Due.are("water alone", n -> x.cell(n, 6), 2, 3, 2, 3, 4, 3, 3, 4, 3);
    }

    /** "beside it": the end of a row is not beside the start of the next row. */
    static void promise10WaterDoesNotWrapAround() {
        IceField x = Due.read("990/999/999");
        Due.are("water beside", n -> x.cell(n, 6), 0, 1, 0, 0, 0, 1, 1, 1, 1);
        IceField y = Due.read("999/099/999");
        Due.are("water beside", n -> y.cell(n, 6), 1, 0, 0, 0, 1, 0, 2, 1, 1);
    }

    // ---- promise 11: block

    /** "what: 0 its number .. 4 its way" */
    static void promise11WhatFromZeroToFour() {
        IceField x = Due.read("99/12");
        x.sawAround(2, 2, 1);
        Due.are("loose", n -> x.block(3, n), 2, 2, 3, 0, 1);
        Due.are("held", n -> x.block(1, n), 0, 2, 18, 1, -1);
    }

    /** "IllegalArgumentException if what is out of range" */
    static void promise11WhatTooSmall() {
        IceField x = new IceField();
        Due.arguments(x, n -> x.block(0, n), -1, -4, MIN);
    }

    /** "IllegalArgumentException if what is out of range" */
    static void promise11WhatTooLarge() {
        IceField x = new IceField();
        Due.arguments(x, n -> x.block(0, n), 5, 6, 256, MAX);
    }

    /** "IndexOutOfBoundsException if there is no such cell" */
    static void promise11NoSuchCell() {
        IceField x = new IceField();
        Due.indexes(x, n -> x.block(n, 0), -1, 16, 17, 48, 49, 256, MAX, MIN);
        Due.indexes(x, n -> x.block(n, 4), -1, 16);
    }

    /** "the one that is listed first is thrown" */
    static void promise11TheCellIsLookedAtFirst() {
        IceField x = new IceField();
        Due.indexes(x, n -> x.block(16, n), -1, 5);
        Due.indexes(x, n -> x.block(-1, n), -1, 5);
    }

    /** "NONE for all if the cell is water" */
    static void promise11NoneForAllOfWater() {
        IceField x = Due.read("09/99");
        Due.are("water", n -> x.block(0, n), -1, -1, -1, -1, -1);
    }

    /** "IllegalArgumentException if what is out of range": for water, too. */
    static void promise11WhatIsLookedAtBeforeTheWater() {
        IceField x = Due.read("09/99");
        Due.arguments(x, n -> x.block(0, n), -1, 5);
    }

    /** "A block is held if one of its cells is in row 0, without a cut between it and the shore" */
    static void promise11HeldByOneCell() {
        IceField x = new IceField();
        Due.is("by four cells", 1, () -> x.block(15, 3));
        x.saw(0, 2);
        x.saw(1, 2);
        x.saw(2, 2);
        Due.is("by one cell", 1, () -> x.block(15, 3));
        x.saw(3, 2);
        Due.is("by none", 0, () -> x.block(15, 3));
    }

    /** "one of its cells is in row 0": ice off the shore is loose without any cut. */
    static void promise11LooseWithoutACut() {
        IceField x = Due.read("000/999/999");
        Due.is("loose", 0, () -> x.block(3, 3));
        Due.is("cuts", 0, () -> x.value(6));
    }

    /** "4 its way (NONE if it is held or stranded)" */
    static void promise11HeldHasNoWay() {
        IceField x = Due.read("90/90");
        Due.is("held, with free water below", -1, () -> x.block(0, 4));
        Due.is("held", 1, () -> x.block(2, 3));
        x.saw(0, 2);
        Due.is("loose", 2, () -> x.block(2, 4));
    }

    /** "4 its way (NONE if it is held or stranded)" */
    static void promise11StrandedHasNoWay() {
        IceField x = new IceField();
        x.sawAround(5, 1, 1);
        Due.are("stranded", n -> x.block(5, n), 5, 1, 10, 0, -1);
    }

    /** The smallest block: one cell of 1, one move from being out. */
    static void promise11SmallestBlock() {
        IceField x = Due.read("00/10");
        Due.are("block", n -> x.block(2, n), 2, 1, 1, 0, 1);
    }

    /** The greatest block: all of the field, out by as many moves as there are rows. */
    static void promise11GreatestBlock() {
        IceField x = Due.made(7, 7, 50);
        x.sawAround(0, 7, 7);
        Due.are("block", n -> x.block(48, n), 0, 49, 2450, 0, 7);
        IceField y = Due.made(2, 2, 50);
        y.sawAround(0, 2, 2);
        Due.are("block", n -> y.block(3, n), 0, 4, 200, 0, 2);
    }

    /** "It is out when all its cells are below the last row": the one in its first row is the last one out. */
    static void promise11OutWhenAllItsCellsAre() {
        IceField x = Due.read("0900/0900/0999/0000");
        x.saw(1, 2);
        Due.is("way", 4, () -> x.block(11, 4));
    }

    /** "not beyond row 0" */
    static void promise11NotBeyondRowZero() {
        IceField x = Due.read("990/990/990");
        x.sawAround(0, 1, 1);
        noWay(x, 0);
        IceField y = Due.read("900/990/990");
        y.sawAround(0, 1, 1);
        way(y, 0, RIGHT, RIGHT, DOWN, DOWN, DOWN);
    }

    /** "not beyond the walls" */
    static void promise11NotBeyondTheWalls() {
        IceField x = Due.read("09/90/99");
        x.sawAround(2, 1, 1);
        x.saw(1, 2);
        Due.is("under its own row", -1, () -> x.block(1, 4));
        IceField y = Due.read("990/999/999");
        y.sawAround(5, 1, 1);
        noWay(y, 5);
    }

    /** "(they go on below the last row, too)": its foot is out already, and may not pass the left wall. */
    static void promise11LeftWallGoesOnBelowTheLastRow() {
        IceField x = Due.read("099/090/999");
        x.saw(1, 2);
        x.saw(2, 2);
        x.saw(7, 0);
        noWay(x, 1);
        x.takeOut(8);
        way(x, 1, DOWN, DOWN, DOWN);
    }

    /** "(they go on below the last row, too)": its foot is out already, and may not pass the right wall. */
    static void promise11RightWallGoesOnBelowTheLastRow() {
        IceField x = Due.read("990/090/999");
        x.saw(0, 2);
        x.saw(1, 2);
        x.saw(6, 0);
        noWay(x, 0);
        x.takeOut(6);
        way(x, 0, DOWN, DOWN, DOWN);
    }

    /** "open water without end": a block may turn aside below the last row, where the walls leave room. */
    static void promise11TurnsAsideBelowTheLastRow() {
        IceField x = Due.read("0099/0090/0099");
        x.saw(2, 2);
        x.saw(3, 2);
        x.saw(10, 0);
        way(x, 2, LEFT, DOWN, DOWN, DOWN);
        IceField y = Due.read("0999/0090/0099");
        y.saw(2, 2);
        y.saw(3, 2);
        y.saw(2, 3);
        y.saw(10, 0);
        way(y, 2, DOWN, LEFT, DOWN, DOWN);
    }

    /** "to a place where the block lay at first" */
    static void promise11ItsOwnPlaceIsFree() {
        IceField x = Due.read("990/900/000");
        x.saw(0, 1);
        x.saw(0, 2);
        x.saw(1, 2);
        way(x, 0, RIGHT, DOWN, DOWN, DOWN);
    }

    /** "each of its cells comes to water": one that comes to ice is enough to bar it. */
    static void promise11EachOfItsCellsHasToComeToWater() {
        IceField x = Due.read("999/090/000");
        x.sawAround(0, 3, 1);
        noWay(x, 0);
        x.sawAround(4, 1, 1);
        x.takeOut(4);
        way(x, 0, DOWN, DOWN, DOWN);
    }

    /** "A loose block without a way is stranded", whatever way of another block was told before. */
    static void promise11StrandedBehindABlockWithAWay() {
        IceField x = Due.read("990/900/000");
        x.sawAround(0, 1, 1);
        Due.is("its way", 2, () -> x.block(3, 4));
        noWay(x, 0);
    }

    // ---- promise 12: move

    /** "index: from 0" */
    static void promise12FirstMoveHasTheIndexZero() {
        IceField x = Due.read("00/90");
        Due.is("move", DOWN, () -> x.move(2, 0));
    }

    /** "NONE if .. it has not so many moves": the last one, and the one behind it. */
    static void promise12LastMove() {
        IceField x = Due.made(7, 7, 1);
        x.sawAround(0, 7, 7);
        Due.are("move", n -> x.move(48, n), DOWN, DOWN, DOWN, DOWN, DOWN, DOWN, DOWN, -1, -1);
    }

    /** "NONE if .. it has not so many moves": however great the index is. */
    static void promise12IndexTooLarge() {
        IceField x = Due.read("00/90");
        int[] indexes = {1, 2, 49, 239, 240, 256, 65536, MAX};
        for (int index : indexes) {
            Due.is("move " + index, -1, () -> x.move(2, index));
        }
    }

    /** "IndexOutOfBoundsException if .. index is negative" */
    static void promise12IndexTooSmall() {
        IceField x = Due.read("00/90");
        Due.indexes(x, n -> x.move(2, n), -1, -2, -256, MIN);
    }

    /** "IndexOutOfBoundsException if .. index is negative": whatever the cell is. */
    static void promise12IndexTooSmallWithoutAWay() {
        IceField x = Due.read("990/090/990");
        x.sawAround(1, 1, 1);
        Due.index("water", x, () -> x.move(2, -1));
        Due.index("held", x, () -> x.move(0, -1));
        x.lay(2, 1);
        Due.is("stranded", -1, () -> x.move(1, 0));
        Due.index("stranded", x, () -> x.move(1, -1));
    }

    /** "IndexOutOfBoundsException if there is no such cell" */
    static void promise12NoSuchCell() {
        IceField x = new IceField();
        Due.indexes(x, n -> x.move(n, 0), -1, 16, 17, 48, 49, 256, MAX, MIN);
        Due.indexes(x, n -> x.move(16, n), -1, MAX);
    }

    /** "NONE if the cell is water" */
    static void promise12Water() {
        IceField x = Due.read("09/99");
        Due.are("move", n -> x.move(0, n), -1, -1);
    }

    /** "NONE if .. there is no way": a held block */
    static void promise12Held() {
        IceField x = Due.read("90/00");
        Due.are("move", n -> x.move(0, n), -1, -1);
    }

    /** "NONE if .. there is no way": a stranded block */
    static void promise12Stranded() {
        IceField x = new IceField();
        x.sawAround(5, 1, 1);
        Due.are("move", n -> x.move(5, n), -1, -1);
    }

    /** "Its way is the fewest moves": a shorter one is taken, though it begins with down. */
    static void promise12TheFewestMovesComeFirst() {
        IceField x = Due.read("090/000/000");
        x.saw(1, 2);
        way(x, 1, DOWN, DOWN, DOWN);
    }

    /** "left comes before right" */
    static void promise12LeftBeforeRight() {
        IceField x = Due.read("090/090/000");
        x.sawAround(1, 1, 1);
        way(x, 1, LEFT, DOWN, DOWN, DOWN);
    }

    /** "left .. before up" */
    static void promise12LeftBeforeUp() {
        IceField x = Due.read("0000/0909/0999");
        x.sawAround(7, 1, 1);
        way(x, 7, LEFT, UP, LEFT, LEFT, DOWN, DOWN, DOWN);
    }

    /** "left .. before down" */
    static void promise12LeftBeforeDown() {
        IceField x = Due.read("09/00/09");
        x.saw(1, 2);
        way(x, 1, LEFT, DOWN, DOWN, DOWN);
    }

    /** "right before up" */
    static void promise12RightBeforeUp() {
        IceField x = Due.read("0000/9090/9990");
        x.sawAround(4, 1, 1);
        way(x, 4, RIGHT, UP, RIGHT, RIGHT, DOWN, DOWN, DOWN);
    }

    /** "right .. before .. down" */
    static void promise12RightBeforeDown() {
        IceField x = Due.read("90/00/90");
        x.saw(0, 2);
        way(x, 0, RIGHT, DOWN, DOWN, DOWN);
    }

    /** "up before down" */
    static void promise12UpBeforeDown() {
        IceField x = Due.read("99999/00099/99000/00090/99990");
        x.saw(10, 0);
        way(x, 10, UP, RIGHT, RIGHT, DOWN, RIGHT, RIGHT, DOWN, DOWN, DOWN);
    }

    /** "at the first move in which they differ": right at once, not left behind a move down. */
    static void promise12TheFirstDifferenceCounts() {
        IceField x = Due.read("9900/0000/0900");
        x.sawAround(1, 1, 1);
        way(x, 1, RIGHT, DOWN, DOWN, DOWN);
        IceField y = Due.read("090/000/000/090");
        y.saw(1, 2);
        way(y, 1, LEFT, DOWN, DOWN, DOWN, DOWN);
    }

    /** A way through all of the greatest field, from wall to wall and back. */
    static void promise12ALongWay() {
        IceField x = Due.read("9000000/9999990/0000000/0999999/0000000/9999990/0000000");
        x.sawAround(0, 1, 1);
        way(x, 0, RIGHT, RIGHT, RIGHT, RIGHT, RIGHT, RIGHT, DOWN, DOWN, LEFT, LEFT, LEFT, LEFT, LEFT, LEFT,
            DOWN, DOWN, RIGHT, RIGHT, RIGHT, RIGHT, RIGHT, RIGHT, DOWN, DOWN, DOWN);
    }

    // ---- promise 13: value

    /** "what: 0 the width .. 13 the blocks that were taken" */
    static void promise13WhatFromZeroToThirteen() {
        IceField x = Due.made(2, 3, 5);
        Due.are("value", x::value, 2, 3, 6, 1, 0, 0, 0, 1, 0, 30, 30, 0, 0, 0);
    }

    /** "IllegalArgumentException if what is out of range" */
    static void promise13WhatTooSmall() {
        IceField x = new IceField();
        Due.arguments(x, x::value, -1, -13, MIN);
    }

    /** "IllegalArgumentException if what is out of range" */
    static void promise13WhatTooLarge() {
        IceField x = new IceField();
        Due.arguments(x, x::value, 14, 15, 256, MAX);
    }

    /** No ice, no blocks, nothing laid. */
    static void promise13EmptyField() {
        IceField x = Due.made(2, 2, 0);
        Due.are("value", x::value, 2, 2, 0, 0, 0, 0, 0, 1, 0, 0, 0, 0, 0, 0);
    }

    /** The greatest field, the most ice, the most cuts, the most blocks. */
    static void promise13FullField() {
        IceField x = Due.made(7, 7, 50);
        for (int cell = 0; cell < 49; cell++) {
            x.sawAround(cell, 1, 1);
        }
        Due.are("value", x::value, 7, 7, 49, 49, 49, 42, 91, 1, 0, 2450, 2450, 0, 0, 0);
    }

    /** "3 the blocks, 4 those that are loose, 5 those that are stranded": stranded ones are loose, too. */
    static void promise13LooseAndStranded() {
        IceField x = new IceField();
        x.sawAround(5, 1, 1);
        x.sawAround(15, 1, 1);
        Due.is("blocks", 3, () -> x.value(3));
        Due.is("loose", 2, () -> x.value(4));
        Due.is("stranded", 1, () -> x.value(5));
        x.sawAround(0, 4, 4);
        Due.is("loose, the outer one too", 3, () -> x.value(4));
        Due.is("stranded, the outer one around the inner one too", 2, () -> x.value(5));
    }

    /** "6 the cuts": each once, whether or not there is ice. */
    static void promise13CutsCountOnce() {
        IceField x = Due.made(4, 4, 0);
        x.sawAround(5, 1, 1);
        x.sawAround(6, 1, 1);
        Due.is("cuts", 7, () -> x.value(6));
    }

    /** "8 the days so far" */
    static void promise13DaysSoFar() {
        IceField x = new IceField();
        Due.is("none", 0, () -> x.value(8));
        x.pass(50);
        x.pass(1);
        Due.is("days", 51, () -> x.value(8));
    }

    /** "What was laid .. is what is in the field, what was taken, and what has melted." */
    static void promise13VolumesAddUp() {
        IceField x = Due.read("9531/1359/9204/1111");
        x.sawAround(12, 2, 1);
        x.pass(2);
        x.lay(9, 50);
        x.sawAround(9, 1, 1);
        x.takeAll();
        x.pass(3);
        Due.is("laid", 55 + 50, () -> x.value(9));
        Due.is("in the field, taken and melted", 55 + 50, () -> x.value(10) + x.value(11) + x.value(12));
        Due.is("something was taken", 1, () -> x.value(11) > 0 ? 1 : 0);
        Due.is("something has melted", 1, () -> x.value(12) > 0 ? 1 : 0);
    }

    // ---- promise 14: taken

    /** "IndexOutOfBoundsException if not so many are kept": none at all */
    static void promise14NothingIsKept() {
        IceField x = new IceField();
        Due.indexes(x, n -> x.taken(n, 0), 0, 1, 39, 40, -1, MAX, MIN);
    }

    /** "0 for the first one, and so on" */
    static void promise14IndexOfTheLastOneKept() {
        IceField x = Due.read("999/999");
        x.sawAround(3, 1, 1);
        x.sawAround(5, 1, 1);
        x.takeOut(5);
        x.takeOut(3);
        Due.are("number", n -> x.taken(n, 0), 5, 3);
        Due.indexes(x, n -> x.taken(n, 0), 2, 3, MAX);
    }

    /** "IndexOutOfBoundsException if not so many are kept" */
    static void promise14IndexTooSmall() {
        IceField x = Due.singleCells();
        x.takeAll();
        Due.indexes(x, n -> x.taken(n, 0), -1, -40, MIN);
    }

    /** "only the first 40 are kept": 39 taken */
    static void promise14ThirtyNineAreKept() {
        IceField x = Due.singleCells();
        takeFromTheEnd(x, 39);
        Due.is("the last one", 10, () -> x.taken(38, 0));
        Due.indexes(x, n -> x.taken(n, 0), 39, 40);
    }

    /** "only the first 40 are kept": 40 taken */
    static void promise14FortyAreKept() {
        IceField x = Due.singleCells();
        takeFromTheEnd(x, 40);
        Due.is("the last one", 9, () -> x.taken(39, 0));
        Due.indexes(x, n -> x.taken(n, 0), 40, 41);
    }

    /** "only the first 40 are kept": 41 taken, and all 49 */
    static void promise14NoMoreThanFortyAreKept() {
        IceField x = Due.singleCells();
        takeFromTheEnd(x, 41);
        Due.is("the last one kept", 9, () -> x.taken(39, 0));
        Due.indexes(x, n -> x.taken(n, 0), 40, 41);
        IceField y = Due.singleCells();
        takeFromTheEnd(y, 49);
        Due.is("the first one kept", 48, () -> y.taken(0, 0));
        Due.is("the last one kept", 9, () -> y.taken(39, 0));
        Due.indexes(y, n -> y.taken(n, 0), 40, 48, 49);
        Due.is("all are counted", 49, () -> y.value(13));
    }

    private static void takeFromTheEnd(IceField x, int blocks) {
        for (int i = 0; i < blocks; i++) {
            x.takeOut(48 - i);
        }
    }

    /** "what: 0 its number as it was, 1 its volume, 2 the day" */
    static void promise14WhatFromZeroToTwo() {
        IceField x = new IceField();
        x.sawAround(13, 2, 1);
        x.pass(3);
        x.takeOut(14);
        Due.are("taken", n -> x.taken(0, n), 13, 14, 3);
    }

    /** "IllegalArgumentException if what is out of range" */
    static void promise14WhatTooSmall() {
        IceField x = Due.read("00/09");
        x.takeAll();
        Due.arguments(x, n -> x.taken(0, n), -1, -3, MIN);
    }

    /** "IllegalArgumentException if what is out of range" */
    static void promise14WhatTooLarge() {
        IceField x = Due.read("90/09");
        x.takeAll();
        Due.arguments(x, n -> x.taken(0, n), 3, 4, 120, 256, MAX);
    }

    /** "the one that is listed first is thrown" */
    static void promise14TheIndexIsLookedAtFirst() {
        IceField x = Due.read("00/09");
        Due.indexes(x, n -> x.taken(0, n), -1, 3);
        x.takeAll();
        Due.indexes(x, n -> x.taken(1, n), -1, 3);
        Due.indexes(x, n -> x.taken(-1, n), -1, 3);
    }

    /** "its number as it was": another block, or ice laid anew, does not change what is kept. */
    static void promise14IsKeptAsItWas() {
        IceField x = Due.read("00/09");
        x.takeOut(3);
        x.lay(2, 4);
        x.lay(3, 1);
        x.pass(1);
        x.takeOut(2);
        Due.are("first", n -> x.taken(0, n), 3, 9, 0);
        Due.are("second", n -> x.taken(1, n), 2, 2, 1);
    }

    /** "The saved state contains everything": undo gives up what was taken, and brings back what was kept. */
    static void promise14UndoOfWhatWasKept() {
        IceField x = Due.singleCells();
        takeFromTheEnd(x, 40);
        x.make(2, 2, 1);
        x.undo();
        Due.is("the last one", 9, () -> x.taken(39, 0));
        x.undo();
        Due.is("the one ahead of it", 10, () -> x.taken(38, 0));
        Due.indexes(x, n -> x.taken(n, 0), 39);
        x.takeOut(9);
        Due.is("taken once more", 9, () -> x.taken(39, 0));
    }
}
