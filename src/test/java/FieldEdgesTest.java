/**
 * Promises 1 to 9 at their boundaries: one test for each sentence of the document that names one. The
 * comment in front of a test gives the words that it holds the class to.
 */
public final class FieldEdgesTest {
    private static final int MAX = Integer.MAX_VALUE;
    private static final int MIN = Integer.MIN_VALUE;

    private FieldEdgesTest() {
    }

    public static void main(String[] args) {
        Due.runAll(FieldEdgesTest.class, 1, 9);
    }

    // ---- promise 1: a new object

    /** "initially 4 and 4" */
    static void promise01FourByFourCells() {
        IceField x = new IceField();
        Due.is("width", 4, () -> x.value(0));
        Due.is("height", 4, () -> x.value(1));
        Due.is("last cell", 10, () -> x.cell(15, 0));
        Due.index("one more", x, () -> x.cell(16, 0));
    }

    /** "A cell has a thickness, .. initially 10" */
    static void promise01EachCellTenThick() {
        IceField x = new IceField();
        Due.are("thickness", n -> x.cell(n, 0), 10, 10, 10, 10, 10, 10, 10, 10, 10, 10, 10, 10, 10, 10, 10, 10);
    }

    /** "without cuts" */
    static void promise01NoCuts() {
        IceField x = new IceField();
        Due.is("cuts", 0, () -> x.value(6));
        for (int cell = 0; cell < 16; cell++) {
            int number = cell;
            Due.is("cuts of " + cell, 0,
                () -> x.cell(number, 1) + x.cell(number, 2) + x.cell(number, 3) + x.cell(number, 4));
        }
    }

    /** "The melt is .. initially 1" */
    static void promise01MeltOfOne() {
        IceField x = new IceField();
        Due.is("melt", 1, () -> x.value(7));
        Due.is("previous melt", 1, () -> x.setMelt(0));
    }

    /** "What was laid, by making the field": its 160 are laid, and nothing else is counted. */
    static void promise01OnlyTheFieldIsCounted() {
        IceField x = new IceField();
        Due.are("value", x::value, 4, 4, 16, 1, 0, 0, 0, 1, 0, 160, 160, 0, 0, 0);
        Due.index("nothing is kept as taken", x, () -> x.taken(0, 0));
    }

    /** "Throws IllegalStateException if there is no saved state": making the object saves none. */
    static void promise01NothingSaved() {
        IceField x = new IceField();
        Due.state("undo", x, x::undo);
    }

    /** The text of a new object is empty. */
    static void promise01EmptyText() {
        IceField x = new IceField();
        Due.is("length", 0, x::clearText);
        Due.is("no field to read", -10, x::parse);
        Due.is("first byte", 1, () -> x.append('1'));
    }

    /** What is done to one object leaves another one as it was. */
    static void promise01ObjectsShareNothing() {
        IceField x = new IceField();
        long before = x.digest();
        IceField y = Due.read("12/34");
        y.sawAround(2, 2, 1);
        y.takeAll();
        Due.is("the other one", before, x::digest);
        Due.state("the other one's saved states", x, x::undo);
    }

    /** "NONE = -1" */
    static void promise01NoneIsMinusOne() {
        Due.is("NONE", -1, () -> IceField.NONE);
    }

    // ---- promise 2: make

    /** "width: 2 to 7" */
    static void promise02WidthOfTwoIsTheLeast() {
        IceField x = new IceField();
        Due.is("volume", 14, () -> x.make(2, 7, 1));
        Due.is("width", 2, () -> x.value(0));
        Due.is("height", 7, () -> x.value(1));
    }

    /** "width: 2 to 7" */
    static void promise02WidthOfSevenIsTheMost() {
        IceField x = new IceField();
        Due.is("volume", 14, () -> x.make(7, 2, 1));
        Due.is("width", 7, () -> x.value(0));
        Due.is("height", 2, () -> x.value(1));
    }

    /** "IllegalArgumentException if an argument is out of range" */
    static void promise02WidthTooSmall() {
        IceField x = new IceField();
        Due.arguments(x, n -> x.make(n, 4, 10), 1, 0, -1, -2, -7, MIN);
    }

    /** "IllegalArgumentException if an argument is out of range" */
    static void promise02WidthTooLarge() {
        IceField x = new IceField();
        Due.arguments(x, n -> x.make(n, 4, 10), 8, 9, 49, 255, 256 + 4, 65536 + 4, MAX);
    }

    /** "height: 2 to 7" */
    static void promise02HeightOfTwoIsTheLeast() {
        IceField x = new IceField();
        Due.is("volume", 6, () -> x.make(3, 2, 1));
        Due.is("last cell", 1, () -> x.cell(5, 0));
        Due.index("one more", x, () -> x.cell(6, 0));
    }

    /** "height: 2 to 7" */
    static void promise02HeightOfSevenIsTheMost() {
        IceField x = new IceField();
        Due.is("volume", 21, () -> x.make(3, 7, 1));
        Due.is("last cell", 1, () -> x.cell(20, 0));
        Due.index("one more", x, () -> x.cell(21, 0));
    }

    /** "IllegalArgumentException if an argument is out of range" */
    static void promise02HeightTooSmall() {
        IceField x = new IceField();
        Due.arguments(x, n -> x.make(4, n, 10), 1, 0, -1, -2, -7, MIN);
    }

    /** "IllegalArgumentException if an argument is out of range" */
    static void promise02HeightTooLarge() {
        IceField x = new IceField();
        Due.arguments(x, n -> x.make(4, n, 10), 8, 9, 49, 255, 256 + 4, 65536 + 4, MAX);
    }

    /** "IllegalArgumentException if an argument is out of range": their product is none. */
    static void promise02SizesWhoseProductWrapsAround() {
        IceField x = new IceField();
        Due.argument("to 0", x, () -> x.make(65536, 65536, 10));
        Due.argument("to 4", x, () -> x.make(0x40000001, 4, 1));
        Due.argument("of two negative ones", x, () -> x.make(-4, -4, 10));
    }

    /** "thickness: 0 to 50"; "with a thickness of 0 it is water" */
    static void promise02ThicknessOfZeroIsTheLeast() {
        IceField x = new IceField();
        Due.is("volume", 0, () -> x.make(4, 4, 0));
        Due.is("ice cells", 0, () -> x.value(2));
        Due.is("blocks", 0, () -> x.value(3));
        Due.is("no block", -1, () -> x.cell(0, 5));
    }

    /** "with a thickness of 0 it is water, otherwise ice" */
    static void promise02ThicknessOfOneIsIce() {
        IceField x = new IceField();
        Due.is("volume", 16, () -> x.make(4, 4, 1));
        Due.is("ice cells", 16, () -> x.value(2));
    }

    /** "thickness: 0 to 50" */
    static void promise02ThicknessOfFiftyIsTheMost() {
        IceField x = new IceField();
        Due.is("volume", 2450, () -> x.make(7, 7, 50));
        Due.is("first cell", 50, () -> x.cell(0, 0));
        Due.is("last cell", 50, () -> x.cell(48, 0));
        Due.index("one more", x, () -> x.cell(49, 0));
    }

    /** "IllegalArgumentException if an argument is out of range" */
    static void promise02ThicknessTooSmall() {
        IceField x = new IceField();
        Due.arguments(x, n -> x.make(4, 4, n), -1, -50, MIN);
    }

    /** "IllegalArgumentException if an argument is out of range" */
    static void promise02ThicknessTooLarge() {
        IceField x = new IceField();
        Due.arguments(x, n -> x.make(4, 4, n), 51, 100, 256, MAX);
    }

    /** "A call that throws an exception changes nothing": the states that were saved stay, too. */
    static void promise02RefusedSavesNothing() {
        IceField x = new IceField();
        x.setMelt(3);
        Due.argument("all wrong", x, () -> x.make(1, 8, 51));
        Due.is("the state before the melt", 0, x::undo);
        Due.is("its melt", 1, () -> x.value(7));
    }

    /** "Makes a field without cuts" */
    static void promise02WithoutTheCutsFromBefore() {
        IceField x = Due.made(7, 7, 1);
        for (int cell = 0; cell < 49; cell++) {
            x.sawAround(cell, 1, 1);
        }
        Due.is("cuts ahead", 91, () -> x.value(6));
        x.make(2, 2, 1);
        Due.is("cuts of the smallest", 0, () -> x.value(6));
        x.make(7, 7, 1);
        Due.is("cuts of the greatest", 0, () -> x.value(6));
        Due.is("one block", 49, () -> x.block(48, 1));
    }

    /** "in place of the field": nothing of a greater one is left. */
    static void promise02InPlaceOfAGreaterField() {
        IceField x = Due.made(7, 7, 50);
        x.make(2, 2, 3);
        Due.is("ice cells", 4, () -> x.value(2));
        Due.is("volume", 12, () -> x.value(10));
        Due.is("one block", 4, () -> x.block(3, 1));
        Due.is("water beside the last cell", 1, () -> x.cell(3, 6));
        Due.index("cell of the greater one", x, () -> x.cell(4, 0));
        Due.is("grown again", 0, () -> x.make(7, 7, 0));
        Due.is("volume of the water", 0, () -> x.value(10));
    }

    /** "all counts are anew" */
    static void promise02CountsAreAnew() {
        IceField x = new IceField();
        x.sawAround(12, 4, 1);
        x.takeOut(12);
        x.lay(0, 5);
        x.pass(2);
        x.make(4, 4, 5);
        Due.are("value", x::value, 4, 4, 16, 1, 0, 0, 0, 1, 0, 80, 80, 0, 0, 0);
    }

    /** "nothing is kept as taken" */
    static void promise02NothingIsKeptAsTaken() {
        IceField x = new IceField();
        x.sawAround(12, 4, 1);
        x.takeOut(12);
        x.make(4, 4, 5);
        Due.index("the one from before", x, () -> x.taken(0, 0));
        x.sawAround(14, 2, 1);
        x.takeOut(15);
        Due.is("the first one then", 14, () -> x.taken(0, 0));
        Due.index("the second one", x, () -> x.taken(1, 0));
    }

    /** "The melt stays." */
    static void promise02MeltStays() {
        IceField x = new IceField();
        x.setMelt(0);
        x.make(2, 2, 1);
        Due.is("0", 0, () -> x.value(7));
        x.setMelt(9);
        x.make(2, 2, 1);
        Due.is("9", 9, () -> x.value(7));
    }

    /** The text is no part of the field. */
    static void promise02TextStays() {
        IceField x = new IceField();
        Due.type(x, "12/34");
        x.make(2, 2, 1);
        Due.is("read", 10, x::parse);
        Due.is("length", 5, x::clearText);
    }

    /** "Undoable." ".. even if the call changes nothing" */
    static void promise02UndoableWithoutAChange() {
        IceField x = new IceField();
        long before = x.digest();
        Due.is("the same once more", 160, () -> x.make(4, 4, 10));
        Due.is("undo", 0, x::undo);
        Due.is("undone", before, x::digest);
    }

    /** "Undoable.": a greater field comes back whole. */
    static void promise02UndoneToAGreaterField() {
        IceField x = Due.made(7, 7, 3);
        x.sawAround(48, 1, 1);
        x.lay(48, 5);
        x.make(2, 2, 1);
        Due.is("undo", 3, x::undo);
        Due.is("the last cell", 8, () -> x.cell(48, 0));
        Due.is("cuts", 2, () -> x.value(6));
        Due.is("volume", 152, () -> x.value(10));
    }

    // ---- promise 3: lay

    /** "more: 1 to 50" */
    static void promise03MoreOfOneIsTheLeast() {
        IceField x = new IceField();
        Due.is("thickness", 11, () -> x.lay(0, 1));
    }

    /** "more: 1 to 50" */
    static void promise03MoreOfFiftyIsTheMost() {
        IceField x = Due.made(2, 2, 0);
        Due.is("thickness", 50, () -> x.lay(0, 50));
    }

    /** "IllegalArgumentException if more is out of range" */
    static void promise03MoreTooSmall() {
        IceField x = new IceField();
        Due.arguments(x, n -> x.lay(0, n), 0, -1, -10, MIN);
    }

    /** "IllegalArgumentException if more is out of range" */
    static void promise03MoreTooLarge() {
        IceField x = Due.made(2, 2, 0);
        Due.arguments(x, n -> x.lay(0, n), 51, 256 + 1, MAX);
    }

    /** "IllegalStateException if the thickness would be more than 50": just 50 is not. */
    static void promise03ThicknessOfFiftyIsTheMost() {
        IceField x = new IceField();
        Due.is("in one call", 50, () -> x.lay(0, 40));
        Due.is("in two calls", 30, () -> x.lay(1, 20));
        Due.is("in two calls", 50, () -> x.lay(1, 20));
    }

    /** "IllegalStateException if the thickness would be more than 50" */
    static void promise03ThicknessTooLarge() {
        IceField x = new IceField();
        Due.states(x, n -> x.lay(0, n), 41, 42, 50);
        x.lay(0, 40);
        Due.states(x, n -> x.lay(0, n), 1, 50);
        IceField y = Due.made(2, 2, 1);
        Due.states(y, n -> y.lay(3, n), 50);
    }

    /** "cell: number of a cell": from 0 */
    static void promise03FirstAndLastCell() {
        IceField x = Due.made(7, 7, 1);
        Due.is("first", 2, () -> x.lay(0, 1));
        Due.is("last", 2, () -> x.lay(48, 1));
        IceField y = Due.made(2, 2, 1);
        Due.is("first", 2, () -> y.lay(0, 1));
        Due.is("last", 2, () -> y.lay(3, 1));
    }

    /** "IndexOutOfBoundsException if there is no such cell" */
    static void promise03NoSuchCell() {
        IceField x = new IceField();
        Due.indexes(x, n -> x.lay(n, 1), -1, 16, 17, 48, 49, 256, MAX, MIN);
        IceField y = Due.made(2, 2, 1);
        Due.indexes(y, n -> y.lay(n, 1), -1, 4, 5);
    }

    /** "the one that is listed first is thrown" */
    static void promise03TheCellIsLookedAtFirst() {
        IceField x = new IceField();
        Due.indexes(x, n -> x.lay(16, n), 0, 51, 50);
        Due.indexes(x, n -> x.lay(-1, n), 0, 51, 50);
    }

    /** "the one that is listed first is thrown" */
    static void promise03MoreIsLookedAtBeforeTheThickness() {
        IceField x = Due.made(2, 2, 50);
        Due.arguments(x, n -> x.lay(0, n), 51, MAX);
        Due.states(x, n -> x.lay(0, n), 50, 1);
    }

    /** "Lays ice on a cell": water becomes ice, and hangs together where there is no cut. */
    static void promise03OnWater() {
        IceField x = Due.made(2, 2, 0);
        Due.is("thickness", 1, () -> x.lay(0, 1));
        Due.is("ice cells", 1, () -> x.value(2));
        x.lay(1, 1);
        x.saw(1, 1);
        x.lay(3, 1);
        Due.is("hangs together", 0, () -> x.cell(1, 5));
        Due.is("is cut off", 3, () -> x.cell(3, 5));
    }

    /** "What was laid, by making the field and by laying ice" */
    static void promise03IsLaidAndInTheField() {
        IceField x = new IceField();
        x.lay(5, 7);
        Due.is("laid", 167, () -> x.value(9));
        Due.is("in the field", 167, () -> x.value(10));
        Due.is("this cell alone", 17, () -> x.cell(5, 0));
        Due.is("the one ahead", 10, () -> x.cell(4, 0));
        Due.is("the one behind", 10, () -> x.cell(6, 0));
    }

    /** "Undoable." */
    static void promise03Undoable() {
        IceField x = new IceField();
        long before = x.digest();
        x.lay(15, 40);
        Due.is("undo", 0, x::undo);
        Due.is("undone", before, x::digest);
    }

    /** "A call that throws an exception changes nothing" */
    static void promise03RefusedSavesNothing() {
        IceField x = new IceField();
        Due.index("cell", x, () -> x.lay(16, 1));
        Due.argument("more", x, () -> x.lay(0, 51));
        Due.state("thickness", x, () -> x.lay(0, 41));
        Due.state("nothing saved", x, x::undo);
    }

    // ---- promise 4: saw

    /** "side: 0 right": one cut, with the cell to its right. */
    static void promise04SideZeroIsRight() {
        IceField x = new IceField();
        Due.is("saw", 1, () -> x.saw(5, 0));
        Due.is("right of it", 1, () -> x.cell(5, 1));
        Due.is("left of the next one", 1, () -> x.cell(6, 4));
        Due.is("cuts", 1, () -> x.value(6));
    }

    /** "1 below" */
    static void promise04SideOneIsBelow() {
        IceField x = new IceField();
        Due.is("saw", 1, () -> x.saw(5, 1));
        Due.is("below it", 1, () -> x.cell(5, 2));
        Due.is("above the next one", 1, () -> x.cell(9, 3));
        Due.is("cuts", 1, () -> x.value(6));
    }

    /** "2 above" */
    static void promise04SideTwoIsAbove() {
        IceField x = new IceField();
        Due.is("saw", 1, () -> x.saw(5, 2));
        Due.is("above it", 1, () -> x.cell(5, 3));
        Due.is("below the next one", 1, () -> x.cell(1, 2));
        Due.is("cuts", 1, () -> x.value(6));
    }

    /** "3 left" */
    static void promise04SideThreeIsLeft() {
        IceField x = new IceField();
        Due.is("saw", 1, () -> x.saw(5, 3));
        Due.is("left of it", 1, () -> x.cell(5, 4));
        Due.is("right of the next one", 1, () -> x.cell(4, 1));
        Due.is("cuts", 1, () -> x.value(6));
    }

    /** "IllegalArgumentException if side is out of range" */
    static void promise04SideTooSmall() {
        IceField x = new IceField();
        Due.arguments(x, n -> x.saw(5, n), -1, -4, MIN);
    }

    /** "IllegalArgumentException if side is out of range" */
    static void promise04SideTooLarge() {
        IceField x = new IceField();
        Due.arguments(x, n -> x.saw(5, n), 4, 5, 256, MAX);
    }

    /** "for a cell of row 0: along the shore" */
    static void promise04AlongTheShore() {
        IceField x = new IceField();
        Due.are("saw", n -> x.saw(n, 2), 1, 1, 1, 1);
        Due.is("cuts", 4, () -> x.value(6));
        Due.is("loose", 1, () -> x.value(4));
        Due.is("row 1 has none", 0, () -> x.cell(4, 3));
    }

    /** "IllegalStateException if there is a wall .. on this side" */
    static void promise04RightWall() {
        IceField x = new IceField();
        Due.states(x, n -> x.saw(n, 0), 3, 7, 11, 15);
        IceField y = Due.made(2, 3, 1);
        Due.states(y, n -> y.saw(n, 0), 1, 3, 5);
    }

    /** "IllegalStateException if there is a wall .. on this side" */
    static void promise04LeftWall() {
        IceField x = new IceField();
        Due.states(x, n -> x.saw(n, 3), 0, 4, 8, 12);
        IceField y = Due.made(2, 3, 1);
        Due.states(y, n -> y.saw(n, 3), 0, 2, 4);
    }

    /** "IllegalStateException if there is .. the open water below the last row, on this side" */
    static void promise04OpenWater() {
        IceField x = new IceField();
        Due.states(x, n -> x.saw(n, 1), 12, 13, 14, 15);
        IceField y = Due.made(3, 2, 1);
        Due.states(y, n -> y.saw(n, 1), 3, 4, 5);
    }

    /** "Two cells beside each other": the last cell of a row is not beside the first one of the next row. */
    static void promise04RowsDoNotWrapAround() {
        IceField x = new IceField();
        Due.state("right wall", x, () -> x.saw(3, 0));
        Due.is("left of the next row", 0, () -> x.cell(4, 4));
        Due.state("left wall", x, () -> x.saw(4, 3));
        Due.is("right of the row ahead", 0, () -> x.cell(3, 1));
    }

    /** "Returns 1 if there was no cut yet, otherwise 0." */
    static void promise04AgainAnswersZero() {
        IceField x = new IceField();
        Due.is("first", 1, () -> x.saw(5, 0));
        Due.is("second", 0, () -> x.saw(5, 0));
        Due.is("third", 0, () -> x.saw(5, 0));
        Due.is("cuts", 1, () -> x.value(6));
    }

    /** "Between two cells": a cut is the same one from both sides. */
    static void promise04OneCutFromBothSides() {
        IceField x = new IceField();
        x.saw(5, 0);
        Due.is("from the right", 0, () -> x.saw(6, 3));
        x.saw(5, 1);
        Due.is("from below", 0, () -> x.saw(9, 2));
        Due.is("cuts", 2, () -> x.value(6));
    }

    /** "IndexOutOfBoundsException if there is no such cell" */
    static void promise04NoSuchCell() {
        IceField x = new IceField();
        Due.indexes(x, n -> x.saw(n, 0), -1, 16, 17, 48, 49, 256, MAX, MIN);
        Due.indexes(x, n -> x.saw(n, 2), -1, -4, 16, 20);
    }

    /** "the one that is listed first is thrown" */
    static void promise04TheCellIsLookedAtFirst() {
        IceField x = new IceField();
        Due.indexes(x, n -> x.saw(16, n), -1, 4, 1);
        Due.indexes(x, n -> x.saw(-1, n), -1, 4, 3);
    }

    /** "the one that is listed first is thrown": no side 4 is told from a wall. */
    static void promise04TheSideIsLookedAtBeforeTheWall() {
        IceField x = new IceField();
        Due.arguments(x, n -> x.saw(3, n), -1, 4);
        Due.arguments(x, n -> x.saw(12, n), -1, 4);
    }

    /** "A cut can be made whether there is ice or water" */
    static void promise04OnWater() {
        IceField x = Due.made(2, 2, 0);
        Due.is("between two cells", 1, () -> x.saw(0, 0));
        Due.is("along the shore", 1, () -> x.saw(1, 2));
        Due.is("again", 0, () -> x.saw(1, 3));
        x.lay(0, 1);
        x.lay(1, 1);
        Due.is("two blocks", 2, () -> x.value(3));
        Due.is("one of them is loose", 1, () -> x.value(4));
    }

    /** "it stays, also if a cell becomes water" */
    static void promise04StaysOnWater() {
        IceField x = Due.made(2, 2, 1);
        x.saw(0, 0);
        x.saw(0, 2);
        x.pass(2);
        Due.is("no ice", 0, () -> x.value(2));
        Due.is("cuts", 2, () -> x.value(6));
        Due.is("again", 0, () -> x.saw(0, 0));
    }

    /** The cuts that the smallest field has room for: 2 along the shore, 4 within. */
    static void promise04AllCutsOfTheSmallestField() {
        IceField x = Due.made(2, 2, 1);
        sawAll(x, 4);
        Due.is("cuts", 6, () -> x.value(6));
        Due.is("blocks", 4, () -> x.value(4));
    }

    /** The cuts that the greatest field has room for: 7 along the shore, 84 within. */
    static void promise04AllCutsOfTheGreatestField() {
        IceField x = Due.made(7, 7, 1);
        sawAll(x, 49);
        Due.is("cuts", 91, () -> x.value(6));
        Due.is("blocks", 49, () -> x.value(4));
    }

    private static void sawAll(IceField x, int cells) {
        for (int i = 0; i < 4 * cells; i++) {
            int cell = i / 4;
            int side = i % 4;
            // A side with a wall or open water refuses; the cuts that are counted then tell what was sawn.
            Due.told(() -> x.saw(cell, side));
        }
    }

    /** "Undoable." ".. even if the call changes nothing" */
    static void promise04UndoableWithoutAChange() {
        IceField x = new IceField();
        x.saw(5, 0);
        long before = x.digest();
        Due.is("again", 0, () -> x.saw(5, 0));
        Due.is("undo", 1, x::undo);
        Due.is("undone", before, x::digest);
        Due.is("undo", 0, x::undo);
        Due.is("cuts", 0, () -> x.value(6));
    }

    /** "A call that throws an exception changes nothing" */
    static void promise04RefusedSavesNothing() {
        IceField x = new IceField();
        Due.index("cell", x, () -> x.saw(16, 0));
        Due.argument("side", x, () -> x.saw(0, 4));
        Due.state("wall", x, () -> x.saw(0, 3));
        Due.state("nothing saved", x, x::undo);
    }

    // ---- promise 5: sawAround

    /** "width: 1 to 7"; "height: 1 to 7" */
    static void promise05OneCellIsTheLeast() {
        IceField x = new IceField();
        Due.is("cuts", 4, () -> x.sawAround(5, 1, 1));
        Due.is("each side", 4, () -> x.cell(5, 1) + x.cell(5, 2) + x.cell(5, 3) + x.cell(5, 4));
        Due.is("cuts in all", 4, () -> x.value(6));
    }

    /** "width: 1 to 7" */
    static void promise05WidthOfSevenIsTheMost() {
        IceField x = Due.made(7, 2, 1);
        Due.is("the first row", 14, () -> x.sawAround(0, 7, 1));
        Due.is("the last row", 0, () -> x.sawAround(7, 7, 1));
    }

    /** "height: 1 to 7" */
    static void promise05HeightOfSevenIsTheMost() {
        IceField x = Due.made(2, 7, 1);
        Due.is("the first column", 8, () -> x.sawAround(0, 1, 7));
        Due.is("the last column", 1, () -> x.sawAround(1, 1, 7));
    }

    /** "IllegalArgumentException if width or height is out of range" */
    static void promise05WidthTooSmall() {
        IceField x = new IceField();
        Due.arguments(x, n -> x.sawAround(5, n, 1), 0, -1, -7, MIN);
    }

    /** "IllegalArgumentException if width or height is out of range" */
    static void promise05WidthTooLarge() {
        IceField x = Due.made(7, 7, 1);
        Due.arguments(x, n -> x.sawAround(0, n, 1), 8, 49, 256 + 1, MAX, MAX - 3);
        Due.arguments(x, n -> x.sawAround(48, n, 1), 8, MAX);
    }

    /** "IllegalArgumentException if width or height is out of range" */
    static void promise05HeightTooSmall() {
        IceField x = new IceField();
        Due.arguments(x, n -> x.sawAround(5, 1, n), 0, -1, -7, MIN);
    }

    /** "IllegalArgumentException if width or height is out of range" */
    static void promise05HeightTooLarge() {
        IceField x = Due.made(7, 7, 1);
        Due.arguments(x, n -> x.sawAround(0, 1, n), 8, 49, 256 + 1, MAX, MAX - 3);
        Due.arguments(x, n -> x.sawAround(48, 1, n), 8, MAX);
    }

    /** "on sides with a wall .. nothing is sawn" */
    static void promise05UpToTheRightWall() {
        IceField x = new IceField();
        Due.is("cuts", 5, () -> x.sawAround(6, 2, 1));
        Due.is("at the wall", 0, () -> x.cell(7, 1));
        Due.is("not around the wall", 0, () -> x.cell(8, 4));
    }

    /** "on sides with a wall .. nothing is sawn" */
    static void promise05UpToTheLeftWall() {
        IceField x = new IceField();
        Due.is("cuts", 5, () -> x.sawAround(4, 2, 1));
        Due.is("at the wall", 0, () -> x.cell(4, 4));
        Due.is("not around the wall", 0, () -> x.cell(3, 1));
    }

    /** "or the rectangle is not within the field" */
    static void promise05BeyondTheRightWall() {
        IceField x = new IceField();
        Due.arguments(x, n -> x.sawAround(6, n, 1), 3, 4, 7);
        Due.arguments(x, n -> x.sawAround(n, 2, 1), 3, 7, 11, 15);
        Due.arguments(x, n -> x.sawAround(n, 4, 1), 1, 13);
    }

    /** "on sides with .. open water nothing is sawn" */
    static void promise05UpToTheLastRow() {
        IceField x = new IceField();
        Due.is("cuts", 5, () -> x.sawAround(9, 1, 2));
        Due.is("at the open water", 0, () -> x.cell(13, 2));
    }

    /** "or the rectangle is not within the field" */
    static void promise05BeyondTheLastRow() {
        IceField x = new IceField();
        Due.arguments(x, n -> x.sawAround(9, 1, n), 3, 4, 7);
        Due.arguments(x, n -> x.sawAround(n, 1, 2), 12, 13, 15);
        Due.arguments(x, n -> x.sawAround(n, 1, 4), 4, 15);
    }

    /** "or the rectangle is not within the field": a width in range can still be too much. */
    static void promise05SevenInASmallerField() {
        IceField x = new IceField();
        Due.argument("width", x, () -> x.sawAround(0, 7, 1));
        Due.argument("height", x, () -> x.sawAround(0, 1, 7));
        IceField y = Due.made(7, 2, 1);
        Due.argument("height of the other one", y, () -> y.sawAround(0, 1, 3));
        Due.is("its width", 14, () -> y.sawAround(0, 7, 1));
    }

    /** The shore is sawn along; all of the field has no other side to saw. */
    static void promise05AllOfTheField() {
        IceField x = Due.made(7, 7, 1);
        Due.is("cuts of the greatest", 7, () -> x.sawAround(0, 7, 7));
        IceField y = Due.made(2, 2, 1);
        Due.is("cuts of the smallest", 2, () -> y.sawAround(0, 2, 2));
        Due.is("it is loose", 1, () -> y.value(4));
    }

    /** The four cells in the corners. */
    static void promise05Corners() {
        IceField x = new IceField();
        Due.is("upper left", 3, () -> x.sawAround(0, 1, 1));
        Due.is("upper right", 3, () -> x.sawAround(3, 1, 1));
        Due.is("lower left", 2, () -> x.sawAround(12, 1, 1));
        Due.is("lower right", 2, () -> x.sawAround(15, 1, 1));
        Due.is("cuts", 10, () -> x.value(6));
    }

    /** "Saws all around": not within. */
    static void promise05NothingIsSawnWithin() {
        IceField x = new IceField();
        Due.is("cuts", 8, () -> x.sawAround(5, 2, 2));
        Due.is("one block", 4, () -> x.block(10, 1));
        Due.is("within", 0, () -> x.cell(5, 1) + x.cell(5, 2) + x.cell(10, 3) + x.cell(10, 4));
    }

    /** "the number of cuts that were not there yet" */
    static void promise05CutsThatAreThereDoNotCount() {
        IceField x = new IceField();
        x.saw(5, 2);
        x.saw(9, 3);
        Due.is("the others", 6, () -> x.sawAround(5, 2, 2));
        Due.is("none then", 0, () -> x.sawAround(5, 2, 2));
        Due.is("left of it", 2, () -> x.sawAround(4, 1, 2));
        Due.is("right of it", 2, () -> x.sawAround(7, 1, 2));
    }

    /** "IndexOutOfBoundsException if there is no such cell" */
    static void promise05NoSuchCell() {
        IceField x = new IceField();
        Due.indexes(x, n -> x.sawAround(n, 1, 1), -1, 16, 17, 48, 49, 256, MAX, MIN);
    }

    /** "the one that is listed first is thrown" */
    static void promise05TheCellIsLookedAtFirst() {
        IceField x = new IceField();
        Due.indexes(x, n -> x.sawAround(16, n, 1), 0, 8, 7);
        Due.indexes(x, n -> x.sawAround(-1, 1, n), 0, 8, 7);
    }

    /** "A cut can be made whether there is ice or water" */
    static void promise05OnWater() {
        IceField x = Due.made(3, 3, 0);
        Due.is("cuts", 4, () -> x.sawAround(4, 1, 1));
    }

    /** "Undoable." ".. even if the call changes nothing" */
    static void promise05UndoableWithoutAChange() {
        IceField x = new IceField();
        x.sawAround(5, 2, 2);
        long before = x.digest();
        Due.is("again", 0, () -> x.sawAround(5, 2, 2));
        Due.is("undo", 1, x::undo);
        Due.is("undone", before, x::digest);
    }

    /** "Undoable.": all its cuts at once. */
    static void promise05UndoneAsOne() {
        IceField x = new IceField();
        x.saw(5, 2);
        x.sawAround(5, 2, 2);
        Due.is("undo", 1, x::undo);
        Due.is("cuts", 1, () -> x.value(6));
        Due.is("the one from before", 1, () -> x.cell(5, 3));
    }

    /** "A call that throws an exception changes nothing" */
    static void promise05RefusedSavesNothing() {
        IceField x = new IceField();
        Due.index("cell", x, () -> x.sawAround(16, 1, 1));
        Due.argument("width", x, () -> x.sawAround(0, 0, 1));
        Due.argument("not within", x, () -> x.sawAround(3, 2, 2));
        Due.state("nothing saved", x, x::undo);
    }

    // ---- promise 6: takeOut

    /** "IllegalStateException if the cell is water" */
    static void promise06Water() {
        IceField x = Due.read("90/09");
        Due.states(x, x::takeOut, 1, 2);
        IceField y = Due.made(2, 2, 0);
        Due.states(y, y::takeOut, 0, 1, 2, 3);
    }

    /** "A block is held if one of its cells is in row 0, without a cut between it and the shore" */
    static void promise06Held() {
        IceField x = new IceField();
        Due.states(x, x::takeOut, 0, 15);
        x.saw(0, 2);
        x.saw(1, 2);
        x.saw(2, 2);
        Due.states(x, x::takeOut, 0, 15);
        x.saw(3, 2);
        Due.is("held no more", 160, () -> x.takeOut(0));
    }

    /** "or the block is .. stranded" */
    static void promise06Stranded() {
        IceField x = new IceField();
        x.sawAround(9, 1, 1);
        Due.states(x, x::takeOut, 9);
        x.sawAround(13, 1, 1);
        Due.states(x, x::takeOut, 9);
        x.takeOut(13);
        Due.is("stranded no more", 10, () -> x.takeOut(9));
    }

    /** "IndexOutOfBoundsException if there is no such cell" */
    static void promise06NoSuchCell() {
        IceField x = new IceField();
        Due.indexes(x, x::takeOut, -1, 16, 17, 48, 49, 256, MAX, MIN);
        IceField y = Due.made(2, 2, 0);
        Due.indexes(y, y::takeOut, -1, 4);
    }

    /** "the loose block to which a cell belongs": any of its cells will do. */
    static void promise06ByAnyOfItsCells() {
        for (int cell = 12; cell < 16; cell++) {
            IceField x = new IceField();
            x.sawAround(12, 4, 1);
            int number = cell;
            Due.is("volume by " + cell, 40, () -> x.takeOut(number));
            Due.is("number by " + cell, 12, () -> x.taken(0, 0));
        }
    }

    /** "When a block is taken out, its cells become water."; the others stay as they are. */
    static void promise06ItsCellsBecomeWater() {
        IceField x = new IceField();
        x.sawAround(13, 2, 1);
        x.takeOut(14);
        Due.are("thickness", n -> x.cell(12 + n, 0), 10, 0, 0, 10);
        Due.is("ice cells", 14, () -> x.value(2));
        Due.state("twice", x, () -> x.takeOut(14));
    }

    /** "it stays, also if a cell becomes water" */
    static void promise06TheCutsStay() {
        IceField x = new IceField();
        x.sawAround(13, 2, 1);
        x.takeOut(14);
        Due.is("cuts", 4, () -> x.value(6));
        x.lay(13, 5);
        Due.is("a block of its own", 13, () -> x.cell(13, 5));
    }

    /** The smallest block: one cell of 1. */
    static void promise06SmallestBlock() {
        IceField x = Due.read("00/01");
        Due.is("volume", 1, () -> x.takeOut(3));
        Due.is("ice cells", 0, () -> x.value(2));
    }

    /** The greatest block: all of the field. */
    static void promise06GreatestBlock() {
        IceField x = Due.made(7, 7, 50);
        x.sawAround(0, 7, 7);
        Due.is("volume", 2450, () -> x.takeOut(48));
        Due.is("ice cells", 0, () -> x.value(2));
        Due.is("taken", 2450, () -> x.value(11));
    }

    /** "What was laid .. is what is in the field, what was taken, and what has melted." */
    static void promise06VolumesAddUp() {
        IceField x = new IceField();
        x.sawAround(12, 4, 1);
        x.pass(3);
        Due.is("volume by now", 28, () -> x.takeOut(12));
        Due.is("taken", 28, () -> x.value(11));
        Due.is("laid", 160, () -> x.value(10) + x.value(11) + x.value(12));
    }

    /** "only the first 40 are kept": the next one is taken, and counted, without being kept. */
    static void promise06TheFortyFirstIsCounted() {
        IceField x = Due.singleCells();
        for (int cell = 48; cell > 8; cell--) {
            x.takeOut(cell);
        }
        Due.is("the fortieth", 9, () -> x.taken(39, 0));
        Due.is("the next one", 2, () -> x.takeOut(8));
        Due.is("blocks", 41, () -> x.value(13));
        Due.is("volume", 82, () -> x.value(11));
        Due.index("not kept", x, () -> x.taken(40, 0));
    }

    /** "Undoable." */
    static void promise06Undoable() {
        IceField x = new IceField();
        x.sawAround(12, 4, 1);
        long before = x.digest();
        x.takeOut(12);
        Due.is("undo", 1, x::undo);
        Due.is("undone", before, x::digest);
        Due.index("not kept any more", x, () -> x.taken(0, 0));
        Due.is("taken once more", 40, () -> x.takeOut(12));
    }

    /** "A call that throws an exception changes nothing" */
    static void promise06RefusedSavesNothing() {
        IceField x = new IceField();
        Due.index("cell", x, () -> x.takeOut(16));
        Due.state("held", x, () -> x.takeOut(0));
        Due.state("nothing saved", x, x::undo);
    }

    // ---- promise 7: takeAll

    /** "until there is none": none at all, if all ice is held. */
    static void promise07NoneIsLoose() {
        IceField x = new IceField();
        Due.is("takeAll", 0, x::takeAll);
        Due.is("blocks taken", 0, () -> x.value(13));
    }

    /** "until there is none": none at all, if there is no ice. */
    static void promise07NoIce() {
        IceField x = Due.made(7, 7, 0);
        Due.is("takeAll", 0, x::takeAll);
    }

    /** "Takes out loose blocks that have a way": stranded ones stay. */
    static void promise07StrandedOnesStay() {
        IceField x = new IceField();
        x.sawAround(5, 1, 1);
        Due.is("takeAll", 0, x::takeAll);
        Due.is("it is still there", 10, () -> x.cell(5, 0));
        Due.is("stranded", 1, () -> x.value(5));
    }

    /** "Takes out loose blocks": held ones stay, also beside the open water. */
    static void promise07HeldOnesStay() {
        IceField x = Due.read("90/99");
        Due.is("takeAll", 0, x::takeAll);
        x.saw(3, 3);
        Due.is("the loose one", 1, x::takeAll);
        Due.is("the held one", 18, () -> x.value(10));
    }

    /** "always the one with the lowest number" */
    static void promise07TheLowestNumberIsFirst() {
        IceField x = Due.read("000/999");
        x.sawAround(3, 1, 1);
        x.sawAround(5, 1, 1);
        Due.is("takeAll", 3, x::takeAll);
        Due.are("number", n -> x.taken(n, 0), 3, 4, 5);
    }

    /** "one after the other, always the one with the lowest number": also one that was stranded ahead. */
    static void promise07ALowerOneThatIsSetFreeIsNext() {
        IceField x = Due.made(2, 3, 5);
        for (int cell = 0; cell < 6; cell++) {
            x.sawAround(cell, 1, 1);
        }
        Due.is("takeAll", 6, x::takeAll);
        Due.are("number", n -> x.taken(n, 0), 4, 2, 0, 1, 3, 5);
    }

    /** "until there is none": the most blocks that a field can have. */
    static void promise07FortyNineBlocks() {
        IceField x = Due.singleCells();
        Due.is("takeAll", 49, x::takeAll);
        Due.is("blocks taken", 49, () -> x.value(13));
        Due.is("volume taken", 98, () -> x.value(11));
        Due.is("no ice", 0, () -> x.value(2));
    }

    /** "what (2) the day" */
    static void promise07TheDayIsKept() {
        IceField x = new IceField();
        x.sawAround(12, 2, 1);
        x.sawAround(14, 2, 1);
        x.pass(4);
        x.takeAll();
        Due.is("first", 4, () -> x.taken(0, 2));
        Due.is("second", 4, () -> x.taken(1, 2));
    }

    /** "Undoable." ".. even if the call changes nothing" */
    static void promise07UndoableWithoutAChange() {
        IceField x = new IceField();
        long before = x.digest();
        Due.is("takeAll", 0, x::takeAll);
        Due.is("undo", 0, x::undo);
        Due.is("undone", before, x::digest);
    }

    /** "Undoable.": all blocks come back at once. */
    static void promise07UndoneAsOne() {
        IceField x = Due.read("99/99");
        x.sawAround(0, 2, 1);
        x.saw(2, 0);
        long before = x.digest();
        Due.is("takeAll", 3, x::takeAll);
        Due.is("undo", 3, x::undo);
        Due.is("undone", before, x::digest);
    }

    // ---- promise 8: setMelt

    /** "melt: 0 to 9" */
    static void promise08MeltOfZeroIsTheLeast() {
        IceField x = new IceField();
        Due.is("previous", 1, () -> x.setMelt(0));
        Due.is("melt", 0, () -> x.value(7));
    }

    /** "melt: 0 to 9" */
    static void promise08MeltOfNineIsTheMost() {
        IceField x = new IceField();
        Due.is("previous", 1, () -> x.setMelt(9));
        Due.is("melt", 9, () -> x.value(7));
    }

    /** "IllegalArgumentException if melt is out of range" */
    static void promise08MeltTooSmall() {
        IceField x = new IceField();
        Due.arguments(x, x::setMelt, -1, -9, MIN);
    }

    /** "IllegalArgumentException if melt is out of range" */
    static void promise08MeltTooLarge() {
        IceField x = new IceField();
        Due.arguments(x, x::setMelt, 10, 11, 256 + 1, MAX);
    }

    /** "Returns the previous melt." */
    static void promise08ThePreviousMelt() {
        IceField x = new IceField();
        Due.is("initially", 1, () -> x.setMelt(9));
        Due.is("the most", 9, () -> x.setMelt(0));
        Due.is("the least", 0, () -> x.setMelt(5));
    }

    /** "Undoable." ".. even if the call changes nothing" */
    static void promise08UndoableWithoutAChange() {
        IceField x = new IceField();
        long before = x.digest();
        Due.is("the same", 1, () -> x.setMelt(1));
        Due.is("undo", 0, x::undo);
        Due.is("undone", before, x::digest);
    }

    /** "A call that throws an exception changes nothing" */
    static void promise08RefusedSavesNothing() {
        IceField x = new IceField();
        Due.arguments(x, x::setMelt, -1, 10);
        Due.state("nothing saved", x, x::undo);
    }

    // ---- promise 9: pass

    /** "days: 1 to 50" */
    static void promise09OneDayIsTheLeast() {
        IceField x = new IceField();
        Due.is("melts", 16, () -> x.pass(1));
        Due.is("days", 1, () -> x.value(8));
    }

    /** "days: 1 to 50" */
    static void promise09FiftyDaysAreTheMost() {
        IceField x = Due.made(2, 2, 50);
        Due.is("melts", 200, () -> x.pass(50));
        Due.is("days", 50, () -> x.value(8));
        IceField y = Due.made(7, 7, 50);
        Due.is("melts", 49 * 49, () -> y.pass(49));
        Due.is("one is left of each", 49, () -> y.pass(50));
    }

    /** "IllegalArgumentException if days is out of range" */
    static void promise09DaysTooFew() {
        IceField x = new IceField();
        Due.arguments(x, x::pass, 0, -1, -50, MIN);
    }

    /** "IllegalArgumentException if days is out of range" */
    static void promise09DaysTooMany() {
        IceField x = new IceField();
        Due.arguments(x, x::pass, 51, 60, 256 + 1, MAX);
    }

    /** "plus 1 .. if at least two of the four cells beside it were water": one is not enough. */
    static void promise09OneSideOfWaterIsNotEnough() {
        IceField x = Due.read("999/909/999");
        x.pass(1);
        Due.are("thickness", n -> x.cell(n, 0), 8, 8, 8, 8, 0, 8, 8, 7, 8);
    }

    /** "plus 1 .. if at least two of the four cells beside it were water" */
    static void promise09TwoSidesOfWaterAreEnough() {
        IceField x = Due.read("990/999/999");
        x.saw(1, 1);
        x.pass(1);
        Due.is("one side", 8, () -> x.cell(1, 0));
        IceField y = Due.read("090/999/999");
        y.pass(1);
        Due.is("two sides", 7, () -> y.cell(1, 0));
        Due.is("one side below", 8, () -> y.cell(3, 0));
        IceField z = Due.read("000/099/099");
        z.pass(1);
        Due.is("two sides around a corner", 7, () -> z.cell(4, 0));
    }

    /** "at least two": three and four are not more than that. */
    static void promise09FourSidesOfWater() {
        IceField x = Due.read("000/090/000");
        Due.is("melts", 2, () -> x.pass(1));
        IceField y = Due.read("090/090/000");
        Due.is("melts", 4, () -> y.pass(1));
        Due.is("three sides", 7, () -> y.cell(4, 0));
    }

    /** "the open water below the last row counts as water" */
    static void promise09OpenWaterCounts() {
        IceField x = Due.read("99/90");
        Due.is("melts", 1 + 1 + 2, () -> x.pass(1));
        Due.is("beside both", 7, () -> x.cell(2, 0));
    }

    /** "shore and walls do not" */
    static void promise09ShoreAndWallsDoNotCount() {
        IceField x = Due.read("99/00");
        Due.is("melts", 2, () -> x.pass(1));
        IceField y = Due.read("90/99/99");
        Due.is("melts", 5, () -> y.pass(1));
        Due.is("in the corner", 8, () -> y.cell(0, 0));
    }

    /** "beside it": the last cell of a row is not beside the first one of the next row. */
    static void promise09RowsDoNotWrapAround() {
        IceField x = Due.read("990/999");
        x.pass(1);
        Due.is("first of row 1", 8, () -> x.cell(3, 0));
        IceField y = Due.read("999/099/999");
        y.pass(1);
        Due.is("last of row 0", 8, () -> y.cell(2, 0));
    }

    /** "plus 1 (also with a melt of 0)" */
    static void promise09MeltOfZero() {
        IceField x = Due.read("99/90");
        x.setMelt(0);
        Due.is("melts", 1, () -> x.pass(1));
        Due.are("thickness", n -> x.cell(n, 0), 9, 9, 8, 0);
        IceField y = new IceField();
        y.setMelt(0);
        Due.is("nothing melts", 0, () -> y.pass(50));
    }

    /** "each ice cell loses the melt, plus 1": at most 10 a day. */
    static void promise09MeltOfNine() {
        IceField x = Due.made(2, 2, 0);
        x.setMelt(9);
        x.lay(0, 50);
        x.lay(2, 50);
        Due.is("melts", 9 + 10, () -> x.pass(1));
    }

    /** "a thickness does not fall below 0" */
    static void promise09NotBelowZero() {
        IceField x = Due.read("13/59");
        x.setMelt(9);
        Due.is("melts", 18, () -> x.pass(1));
        Due.are("thickness", n -> x.cell(n, 0), 0, 0, 0, 0);
        Due.is("in the field", 0, () -> x.value(10));
        Due.is("melted", 18, () -> x.value(12));
    }

    /** "a thickness does not fall below 0": nor with the 1 more. */
    static void promise09NotBelowZeroByTheOneMore() {
        IceField x = Due.read("10/00");
        Due.is("melts", 1, () -> x.pass(1));
        Due.is("thickness", 0, () -> x.cell(0, 0));
    }

    /** "were water ahead of that day"; "All cells melt at the same time." */
    static void promise09AllCellsMeltAtTheSameTime() {
        // The cells of thickness 1 become water on the first day, ahead of and behind the one that is looked at.
        IceField x = Due.read("91/19/00");
        x.pass(1);
        Due.is("right and below were ice", 8, () -> x.cell(0, 0));
        Due.is("left and above were ice, below was water", 8, () -> x.cell(3, 0));
        x.pass(1);
        Due.is("right and below were water", 6, () -> x.cell(0, 0));
        Due.is("left, above and below were water", 6, () -> x.cell(3, 0));
    }

    /** "Lets days pass": each day sees the water of the days before, in one call as in many. */
    static void promise09DaysInOneCallAreDaysOneByOne() {
        IceField x = Due.read("9531/1359/0204");
        IceField y = Due.read("9531/1359/0204");
        int one = x.pass(1) + x.pass(1) + x.pass(1) + x.pass(1);
        Due.is("melts", one, () -> y.pass(4));
        Due.are("thickness", n -> y.cell(n, 0), x.cell(0, 0), x.cell(1, 0), x.cell(2, 0), x.cell(3, 0),
            x.cell(4, 0), x.cell(5, 0), x.cell(6, 0), x.cell(7, 0), x.cell(8, 0), x.cell(9, 0), x.cell(10, 0),
            x.cell(11, 0));
    }

    /** "Lets days pass", also without ice; "the days so far" add up. */
    static void promise09NoIce() {
        IceField x = Due.made(2, 2, 0);
        Due.is("melts", 0, () -> x.pass(50));
        Due.is("melts", 0, () -> x.pass(50));
        Due.is("days", 100, () -> x.value(8));
    }

    /** "Returns the volume that melts on them": not what has melted before. */
    static void promise09OnlyWhatMeltsOnTheseDays() {
        IceField x = new IceField();
        Due.is("two days", 32, () -> x.pass(2));
        Due.is("three days", 48, () -> x.pass(3));
        Due.is("in all", 80, () -> x.value(12));
        Due.is("laid", 160, () -> x.value(9));
        Due.is("in the field", 80, () -> x.value(10));
    }

    /** "A block is a greatest set of ice cells that hang together": it falls apart where ice becomes water. */
    static void promise09ABlockFallsApart() {
        IceField x = Due.read("919/000");
        Due.is("one block", 1, () -> x.value(3));
        x.pass(1);
        Due.is("two blocks", 2, () -> x.value(3));
        Due.is("the second one", 2, () -> x.cell(2, 5));
    }

    /** "Undoable.": all its days at once. */
    static void promise09UndoneAsOne() {
        IceField x = Due.made(3, 3, 50);
        x.saw(4, 0);
        long before = x.digest();
        x.pass(50);
        Due.is("undo", 2, x::undo);
        Due.is("undone", before, x::digest);
        Due.is("days", 0, () -> x.value(8));
    }

    /** "A call that throws an exception changes nothing" */
    static void promise09RefusedSavesNothing() {
        IceField x = new IceField();
        Due.arguments(x, x::pass, 0, 51);
        Due.state("nothing saved", x, x::undo);
    }
}
