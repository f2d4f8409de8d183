/** Promises 15 to 21: the what-if questions, none of which changes anything. */
public final class WhatIfTest {
    private WhatIfTest() {
    }

    public static void main(String[] args) {
        Due.runAll(WhatIfTest.class, 15, 21);
    }

    static void promise15CutsAround() {
        IceField x = new IceField();
        Due.asks("within", x, 8, () -> x.cutsAround(5, 2, 2));
        Due.asks("all of the field", x, 4, () -> x.cutsAround(0, 4, 4));
        x.saw(5, 3);
        x.saw(2, 1);
        Due.asks("what is cut is not told", x, 6, () -> x.cutsAround(5, 2, 2));
        Due.is("as many as are sawn", 6, () -> x.sawAround(5, 2, 2));
        Due.asks("none is left", x, 0, () -> x.cutsAround(5, 2, 2));
        Due.argument("beyond the right wall", x, () -> x.cutsAround(6, 3, 1));
        Due.argument("beyond the last row", x, () -> x.cutsAround(9, 1, 3));
    }

    static void promise16Takable() {
        IceField x = Due.read("99/99");
        Due.asks("none", x, 0, x::takable);
        x.sawAround(0, 2, 1);
        Due.asks("one behind the other", x, 2, x::takable);
        Due.is("as many as are taken", 2, x::takeAll);
        Due.asks("no ice", x, 0, x::takable);
        IceField y = new IceField();
        y.sawAround(5, 1, 1);
        Due.asks("stranded", y, 0, y::takable);
    }

    static void promise17LeftStranded() {
        IceField x = new IceField();
        Due.asks("none loose", x, 0, x::leftStranded);
        x.sawAround(5, 1, 1);
        x.sawAround(10, 1, 1);
        Due.asks("two", x, 2, x::leftStranded);
        x.sawAround(14, 1, 1);
        Due.asks("one is set free", x, 1, x::leftStranded);
        Due.asks("those are taken", x, 2, x::takable);
        Due.is("stranded now", 2, () -> x.value(5));
        x.takeAll();
        Due.asks("left", x, 1, x::leftStranded);
        Due.is("one is left", 1, () -> x.value(5));
    }

    static void promise18DaysWhole() {
        IceField x = new IceField();
        Due.asks("held", x, -1, () -> x.daysWhole(15));
        x.sawAround(12, 4, 1);
        Due.asks("all of it alike", x, 10, () -> x.daysWhole(13));
        Due.asks("the other is held", x, -1, () -> x.daysWhole(0));
        x.lay(12, 40);
        Due.asks("the first cell counts", x, 10, () -> x.daysWhole(12));
        x.pass(3);
        Due.asks("behind three days", x, 7, () -> x.daysWhole(12));
        x.setMelt(9);
        Due.asks("soon", x, 1, () -> x.daysWhole(12));
        x.setMelt(0);
        Due.asks("never", x, -1, () -> x.daysWhole(12));
        x.takeOut(12);
        Due.asks("water", x, -1, () -> x.daysWhole(12));
        IceField y = new IceField();
        y.sawAround(5, 1, 1);
        Due.asks("stranded is loose, too", y, 10, () -> y.daysWhole(5));
    }

    static void promise19DaysToWater() {
        IceField x = new IceField();
        Due.asks("new", x, 10, x::daysToWater);
        x.make(2, 2, 0);
        Due.asks("no ice", x, 0, x::daysToWater);
        x.setMelt(0);
        x.lay(2, 50);
        x.lay(0, 10);
        Due.asks("the sixtieth day", x, 60, x::daysToWater);
        x.lay(0, 1);
        Due.asks("one day more", x, -1, x::daysToWater);
        x.make(7, 7, 1);
        Due.asks("never", x, -1, x::daysToWater);
        x.setMelt(1);
        Due.asks("one day", x, 1, x::daysToWater);
    }

    static void promise20BarredBy() {
        IceField x = new IceField();
        Due.asks("none is loose", x, -1, x::barredBy);
        x.sawAround(9, 1, 1);
        Due.asks("the cell below", x, 13, x::barredBy);
        x.sawAround(5, 1, 1);
        Due.asks("one cell is not enough for the lowest", x, -1, x::barredBy);
        x.sawAround(13, 1, 1);
        Due.asks("a loose one bars, too", x, -1, x::barredBy);
        x.takeOut(13);
        Due.asks("only one is between", x, 9, x::barredBy);
        x.takeOut(9);
        Due.asks("none is stranded", x, -1, x::barredBy);
    }

    static void promise20BarredByTheLowest() {
        IceField x = Due.read("999/090/999/000");
        x.sawAround(4, 1, 1);
        Due.asks("the lowest of three", x, 6, x::barredBy);
        // Cell 6 is thick and held by nothing but its neighbours: its cuts do not matter.
        x.sawAround(6, 1, 1);
        Due.asks("whatever is cut", x, 6, x::barredBy);
        Due.asks("and it can be taken", x, 3, x::takable);
        // The shore row can be the bar: block 3 goes up, over and down only if cell 1 is water.
        IceField y = Due.read("090/990/990");
        y.sawAround(3, 1, 1);
        Due.asks("the cell of the way over", y, 1, y::barredBy);
        IceField z = Due.read("99/09");
        z.sawAround(1, 1, 1);
        Due.asks("the first cell of all", z, 0, z::barredBy);
    }

    static void promise21Harvest() {
        IceField x = Due.read("99/99/99");
        share("nothing yet", x, 0.0);
        x.sawAround(4, 2, 1);
        x.takeOut(4);
        share("a third", x, 18.0 / 54.0);
        x.lay(5, 7);
        share("more was laid", x, 18.0 / 61.0);
        x.pass(50);
        share("what has melted was laid", x, 18.0 / 61.0);
        x.make(2, 2, 0);
        share("nothing was laid", x, 0.0);
        x.make(2, 2, 1);
        x.sawAround(0, 2, 2);
        x.takeAll();
        share("all", x, 1.0);
    }

    private static void share(String what, IceField x, double due) {
        Due.asks(what, x, Double.doubleToRawLongBits(due), () -> Double.doubleToRawLongBits(x.harvest()));
    }
}
