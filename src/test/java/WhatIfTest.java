/** Promises 15 to 21: the what-if questions, none of which changes anything. */
public final class WhatIfTest {
    private static final int[] WRONG_CELLS = {16, -1, Integer.MAX_VALUE, Integer.MIN_VALUE};

    private WhatIfTest() {
    }

    public static void main(String[] args) {
        cutsAround();
        takable();
        leftStranded();
        daysWhole();
        daysWholeUpToSixty();
        daysToWater();
        barredBy();
        barredByTheLowest();
        harvest();
        Due.end();
    }

    /** Asks twice, with the digest between: a question leaves all as it was. */
    private static void asks(String what, IceField x, long due, Due.Call call) {
        long before = x.digest();
        Due.is(what, due, call);
        Due.is(what + " changes nothing", before, x::digest);
        Due.is(what + " again", due, call);
    }

    private static void cutsAround() {
        IceField x = new IceField();
        asks("15: within", x, 8, () -> x.cutsAround(5, 2, 2));
        asks("15: all of the field", x, 4, () -> x.cutsAround(0, 4, 4));
        x.saw(5, 3);
        x.saw(2, 1);
        asks("15: what is cut is not told", x, 6, () -> x.cutsAround(5, 2, 2));
        Due.is("15: as many as are sawn", 6, () -> x.sawAround(5, 2, 2));
        asks("15: none is left", x, 0, () -> x.cutsAround(5, 2, 2));
        for (int cell : WRONG_CELLS) {
            Due.index("15: cell " + cell, x, () -> x.cutsAround(cell, 0, 0));
        }
        int[] wrongSides = {0, -1, 8, 5, Integer.MAX_VALUE, Integer.MIN_VALUE};
        for (int side : wrongSides) {
            Due.argument("15: width " + side, x, () -> x.cutsAround(0, side, 1));
            Due.argument("15: height " + side, x, () -> x.cutsAround(0, 1, side));
        }
        Due.argument("15: beyond the right wall", x, () -> x.cutsAround(6, 3, 1));
        Due.argument("15: beyond the last row", x, () -> x.cutsAround(9, 1, 3));
    }

    private static void takable() {
        IceField x = Due.read("99/99");
        asks("16: none", x, 0, x::takable);
        x.sawAround(0, 2, 1);
        asks("16: one behind the other", x, 2, x::takable);
        Due.is("16: as many as are taken", 2, x::takeAll);
        asks("16: no ice", x, 0, x::takable);
        IceField y = new IceField();
        y.sawAround(5, 1, 1);
        asks("16: stranded", y, 0, y::takable);
    }

    private static void leftStranded() {
        IceField x = new IceField();
        asks("17: none loose", x, 0, x::leftStranded);
        x.sawAround(5, 1, 1);
        x.sawAround(10, 1, 1);
        asks("17: two", x, 2, x::leftStranded);
        x.sawAround(14, 1, 1);
        asks("17: one is set free", x, 1, x::leftStranded);
        asks("17: those are taken", x, 2, x::takable);
        Due.is("17: stranded now", 2, () -> x.value(5));
        x.takeAll();
        asks("17: left", x, 1, x::leftStranded);
        Due.is("17: one is left", 1, () -> x.value(5));
    }

    private static void daysWhole() {
        IceField x = new IceField();
        asks("18: held", x, -1, () -> x.daysWhole(15));
        x.sawAround(12, 4, 1);
        asks("18: all of it alike", x, 10, () -> x.daysWhole(13));
        asks("18: the other is held", x, -1, () -> x.daysWhole(0));
        x.lay(12, 40);
        asks("18: the first cell counts", x, 10, () -> x.daysWhole(12));
        x.pass(3);
        asks("18: behind three days", x, 7, () -> x.daysWhole(12));
        x.setMelt(9);
        asks("18: soon", x, 1, () -> x.daysWhole(12));
        x.setMelt(0);
        asks("18: never", x, -1, () -> x.daysWhole(12));
        x.takeOut(12);
        asks("18: water", x, -1, () -> x.daysWhole(12));
        IceField y = new IceField();
        y.sawAround(5, 1, 1);
        asks("18: stranded is loose, too", y, 10, () -> y.daysWhole(5));
        for (int cell : WRONG_CELLS) {
            Due.index("18: cell " + cell, x, () -> x.daysWhole(cell));
        }
    }

    /** Cell 4 melts for 50 days; cell 1 melts only behind them. */
    private static IceField slowField(int thickness) {
        IceField x = new IceField();
        x.make(3, 2, 0);
        x.setMelt(0);
        x.lay(0, 50);
        x.lay(1, thickness);
        x.lay(4, 50);
        x.saw(0, 2);
        x.saw(1, 2);
        x.saw(1, 1);
        return x;
    }

    private static void daysWholeUpToSixty() {
        IceField x = slowField(10);
        asks("18: the sixtieth day", x, 60, () -> x.daysWhole(0));
        asks("18: one cell for 50 days", x, 50, () -> x.daysWhole(4));
        IceField y = slowField(11);
        asks("18: one day more", y, -1, () -> y.daysWhole(0));
    }

    private static void daysToWater() {
        IceField x = new IceField();
        asks("19: new", x, 10, x::daysToWater);
        x.make(2, 2, 0);
        asks("19: no ice", x, 0, x::daysToWater);
        x.setMelt(0);
        x.lay(2, 50);
        x.lay(0, 10);
        asks("19: the sixtieth day", x, 60, x::daysToWater);
        x.lay(0, 1);
        asks("19: one day more", x, -1, x::daysToWater);
        x.make(7, 7, 1);
        asks("19: never", x, -1, x::daysToWater);
        x.setMelt(1);
        asks("19: one day", x, 1, x::daysToWater);
    }

    private static void barredBy() {
        IceField x = new IceField();
        asks("20: none is loose", x, -1, x::barredBy);
        x.sawAround(9, 1, 1);
        asks("20: the cell below", x, 13, x::barredBy);
        x.sawAround(5, 1, 1);
        asks("20: one cell is not enough for the lowest", x, -1, x::barredBy);
        x.sawAround(13, 1, 1);
        asks("20: a loose one bars, too", x, -1, x::barredBy);
        x.takeOut(13);
        asks("20: only one is between", x, 9, x::barredBy);
        x.takeOut(9);
        asks("20: none is stranded", x, -1, x::barredBy);
    }

    private static void barredByTheLowest() {
        IceField x = Due.read("999/090/999/000");
        x.sawAround(4, 1, 1);
        asks("20: the lowest of three", x, 6, x::barredBy);
        // Cell 6 is thick and held by nothing but its neighbours: its cuts do not matter.
        x.sawAround(6, 1, 1);
        asks("20: whatever is cut", x, 6, x::barredBy);
        asks("20: and it can be taken", x, 3, x::takable);
        // The shore row can be the bar: block 3 goes up, over and down only if cell 1 is water.
        IceField y = Due.read("090/990/990");
        y.sawAround(3, 1, 1);
        asks("20: the cell of the way over", y, 1, y::barredBy);
        IceField z = Due.read("99/09");
        z.sawAround(1, 1, 1);
        asks("20: the first cell of all", z, 0, z::barredBy);
    }

    private static void harvest() {
        IceField x = Due.read("99/99/99");
        share("21: nothing yet", x, 0.0);
        x.sawAround(4, 2, 1);
        x.takeOut(4);
        share("21: a third", x, 18.0 / 54.0);
        x.lay(5, 7);
        share("21: more was laid", x, 18.0 / 61.0);
        x.pass(50);
        share("21: what has melted was laid", x, 18.0 / 61.0);
        x.make(2, 2, 0);
        share("21: nothing was laid", x, 0.0);
        x.make(2, 2, 1);
        x.sawAround(0, 2, 2);
        x.takeAll();
        share("21: all", x, 1.0);
    }

    private static void share(String what, IceField x, double due) {
        asks(what, x, Double.doubleToRawLongBits(due), () -> Double.doubleToRawLongBits(x.harvest()));
    }
}
