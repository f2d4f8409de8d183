import java.math.BigInteger;

/**
 * Promises 25 and 26 at their boundaries: one test for each sentence of the document that names one. The
 * comment in front of a test gives the words that it holds the class to.
 */
public final class StateEdgesTest {
    private StateEdgesTest() {
    }

    public static void main(String[] args) {
        Due.runAll(StateEdgesTest.class, 25, 26);
    }

    // ---- promise 25: undo

    /** "IllegalStateException if there is no saved state" */
    static void promise25NothingSaved() {
        IceField x = new IceField();
        Due.state("undo", x, x::undo);
        Due.state("undo again", x, x::undo);
    }

    /** "the number of saved states that remain": none behind the only one */
    static void promise25OneSavedState() {
        IceField x = new IceField();
        x.setMelt(5);
        Due.is("remain", 0, x::undo);
        Due.is("melt", 1, () -> x.value(7));
        Due.state("undo again", x, x::undo);
    }

    /** "at most 4 states are saved" */
    static void promise25FourStatesAreTheMost() {
        IceField x = new IceField();
        for (int melt = 2; melt <= 5; melt++) {
            x.setMelt(melt);
        }
        Due.are("remain", n -> x.undo(), 3, 2, 1, 0);
        Due.is("the first melt", 1, () -> x.value(7));
        Due.state("undo again", x, x::undo);
    }

    /** "the oldest is dropped first" */
    static void promise25TheFifthDropsTheOldest() {
        IceField x = new IceField();
        for (int melt = 2; melt <= 6; melt++) {
            x.setMelt(melt);
        }
        Due.is("remain", 3, x::undo);
        Due.is("melt", 5, () -> x.value(7));
        Due.is("remain", 2, x::undo);
        Due.is("melt", 4, () -> x.value(7));
        Due.is("remain", 1, x::undo);
        Due.is("melt", 3, () -> x.value(7));
        Due.is("remain", 0, x::undo);
        Due.is("melt", 2, () -> x.value(7));
        Due.state("the oldest one is dropped", x, x::undo);
    }

    /** "the oldest is dropped first", as often as "at most 512 calls" let it be: these are just so many. */
    static void promise25ManyStates() {
        IceField x = new IceField();
        for (int i = 1; i <= 504; i++) {
            x.setMelt(i % 9);
        }
        Due.are("remain", n -> x.undo(), 3, 2, 1, 0);
        Due.is("the melt of the 500th call", 500 % 9, () -> x.value(7));
        Due.state("undo again", x, x::undo);
    }

    /** "Restores the most recently saved state and removes it": new ones are saved behind what remains. */
    static void promise25SavedAgainBehindUndo() {
        IceField x = new IceField();
        for (int melt = 2; melt <= 6; melt++) {
            x.setMelt(melt);
        }
        x.undo();
        x.undo();
        x.setMelt(8);
        x.setMelt(9);
        Due.is("remain", 3, x::undo);
        Due.is("melt", 8, () -> x.value(7));
        Due.is("remain", 2, x::undo);
        Due.is("melt", 4, () -> x.value(7));
        Due.is("remain", 1, x::undo);
        Due.is("melt", 3, () -> x.value(7));
        Due.is("remain", 0, x::undo);
        Due.is("melt", 2, () -> x.value(7));
        Due.state("undo again", x, x::undo);
    }

    /** undo is not "Undoable": it brings back older states, and none that it has left. */
    static void promise25UndoIsNotUndone() {
        IceField x = new IceField();
        x.setMelt(5);
        x.setMelt(7);
        x.undo();
        x.undo();
        Due.is("melt", 1, () -> x.value(7));
        Due.state("nothing saved", x, x::undo);
    }

    /** "Each successful call .. saves the state from before the call, even if the call changes nothing" */
    static void promise25CallsThatChangeNothing() {
        IceField x = new IceField();
        x.saw(5, 0);
        x.saw(5, 0);
        x.takeAll();
        x.setMelt(1);
        Due.are("remain", n -> x.undo(), 3, 2, 1);
        Due.is("the cut is still there", 1, () -> x.value(6));
        Due.is("remain", 0, x::undo);
        Due.is("the cut is not there any more", 0, () -> x.value(6));
    }

    /** "Each successful call": refused ones save nothing, and drop nothing. */
    static void promise25RefusedCallsSaveNothing() {
        IceField x = new IceField();
        for (int melt = 2; melt <= 5; melt++) {
            x.setMelt(melt);
        }
        Due.argument("make", x, () -> x.make(1, 1, 1));
        Due.state("lay", x, () -> x.lay(0, 50));
        Due.state("saw", x, () -> x.saw(0, 3));
        Due.argument("sawAround", x, () -> x.sawAround(3, 2, 1));
        Due.state("takeOut", x, () -> x.takeOut(0));
        Due.argument("setMelt", x, () -> x.setMelt(10));
        Due.argument("pass", x, () -> x.pass(0));
        Due.is("parse", -10, x::parse);
        Due.are("remain", n -> x.undo(), 3, 2, 1, 0);
        Due.is("the first melt", 1, () -> x.value(7));
    }

    /** "a method whose description says "undoable"": the other ones save nothing. */
    static void promise25QuestionsSaveNothing() {
        IceField x = new IceField();
        x.sawAround(5, 1, 1);
        x.cell(5, 5);
        x.block(5, 4);
        x.move(5, 0);
        x.value(5);
        x.cutsAround(0, 1, 1);
        x.takable();
        x.leftStranded();
        x.daysWhole(5);
        x.daysToWater();
        x.barredBy();
        x.harvest();
        x.append('1');
        x.clearText();
        x.digest();
        Due.is("remain", 0, x::undo);
        Due.is("cuts", 0, () -> x.value(6));
    }

    /** "The saved state contains everything except the text.": everything */
    static void promise25EverythingIsRestored() {
        IceField x = new IceField();
        x.sawAround(12, 2, 1);
        x.takeOut(12);
        x.pass(3);
        long before = x.digest();
        x.make(7, 7, 50);
        Due.is("remain", 3, x::undo);
        Due.is("digest", before, x::digest);
        // Cell 14 lay beside water and the open water on all three days.
        Due.are("value", x::value, 4, 4, 14, 1, 0, 0, 3, 1, 3, 160, 95, 20, 14 * 3 + 3, 1);
        Due.are("taken", n -> x.taken(0, n), 12, 20, 0);
    }

    /** "The saved state contains everything except the text." */
    static void promise25TheTextIsNotRestored() {
        IceField x = new IceField();
        x.append('1');
        x.setMelt(5);
        x.append('2');
        Due.is("undo", 0, x::undo);
        Due.is("length", 2, x::clearText);
    }

    // ---- promise 26: digest

    /** The hash of what the other calls tell, summed up without an overflow and cut to a long at the end. */
    private static long hash(IceField x, int textLength, int savedStates) {
        BigInteger h = then(BigInteger.valueOf(3557), textLength);
        for (int what = 0; what <= 13; what++) {
            h = then(h, x.value(what));
        }
        for (int cell = 0; cell < x.value(0) * x.value(1); cell++) {
            for (int what = 0; what <= 6; what++) {
                h = then(h, x.cell(cell, what));
            }
            h = then(h, x.block(cell, 3));
            h = then(h, x.block(cell, 4));
        }
        for (int index = 0; index < Math.min(40, x.value(13)); index++) {
            for (int what = 0; what <= 2; what++) {
                h = then(h, x.taken(index, what));
            }
        }
        h = then(h, x.takable());
        return then(h, savedStates).longValue();
    }

    private static BigInteger then(BigInteger h, int value) {
        return h.multiply(BigInteger.valueOf(31)).add(BigInteger.valueOf(value));
    }

    /** "Start with h = 3557": a new object, without text, taken blocks and saved states */
    static void promise26NewObject() {
        IceField x = new IceField();
        Due.asks("digest", x, hash(x, 0, 0), x::digest);
    }

    /** "for each cell": the fewest of them */
    static void promise26SmallestField() {
        IceField x = Due.read("12/30");
        Due.asks("digest", x, hash(x, 5, 1), x::digest);
    }

    /** "for each cell": the most of them, each a block of its own */
    static void promise26GreatestField() {
        IceField x = Due.singleCells();
        Due.asks("digest", x, hash(x, 0, 4), x::digest);
    }

    /** "the values of .. block() for 3 and 4": NONE for water, too */
    static void promise26WaterAlone() {
        IceField x = Due.made(7, 7, 0);
        Due.asks("digest", x, hash(x, 0, 1), x::digest);
    }

    /** "the length of the text": 60 */
    static void promise26FullText() {
        IceField x = new IceField();
        for (int i = 0; i < 60; i++) {
            x.append(127);
        }
        Due.asks("digest", x, hash(x, 60, 0), x::digest);
    }

    /** "the length of the text": not its bytes */
    static void promise26BytesDoNotCount() {
        IceField x = new IceField();
        IceField y = new IceField();
        x.append(0);
        y.append(127);
        Due.asks("digest", x, y.digest(), x::digest);
    }

    /** "for each block that is kept as taken": none of them behind the fortieth */
    static void promise26FortyKeptBlocks() {
        IceField x = Due.singleCells();
        x.takeAll();
        Due.asks("digest", x, hash(x, 0, 4), x::digest);
        IceField y = Due.singleCells();
        for (int cell = 48; cell > 8; cell--) {
            y.takeOut(cell);
        }
        Due.asks("digest with the fortieth", y, hash(y, 0, 4), y::digest);
    }

    /** "takable()": what could be taken, not what was. */
    static void promise26TakableBlocks() {
        IceField x = Due.read("999/999/000");
        x.sawAround(3, 1, 1);
        x.sawAround(5, 1, 1);
        Due.is("takable", 2, x::takable);
        Due.asks("digest", x, hash(x, 11, 3), x::digest);
    }

    /** "the number of saved states": 0 to 4 */
    static void promise26SavedStates() {
        IceField x = new IceField();
        for (int saved = 1; saved <= 6; saved++) {
            x.setMelt(saved);
            Due.asks("digest with " + saved, x, hash(x, 0, Math.min(saved, 4)), x::digest);
        }
        for (int saved = 3; saved >= 0; saved--) {
            x.undo();
            Due.asks("digest with " + saved, x, hash(x, 0, saved), x::digest);
        }
    }

    /** "with the overflow of long arithmetic ignored": the hash of a long row of values is below 0, too. */
    static void promise26OverflowIsIgnored() {
        IceField x = new IceField();
        boolean below = false;
        boolean above = false;
        for (int day = 0; day < 20; day++) {
            Due.is("digest", hash(x, 0, Math.min(day, 4)), x::digest);
            below |= x.digest() < 0;
            above |= x.digest() > 0;
            x.pass(1);
        }
        boolean both = below && above;
        Due.is("some are below 0, some above", 1, () -> both ? 1 : 0);
    }

    /** Two objects that went the same way have the same digest. */
    static void promise26TheSameForTheSameState() {
        IceField x = Due.read("99/91");
        IceField y = Due.read("99/91");
        x.sawAround(2, 2, 1);
        y.sawAround(2, 2, 1);
        Due.asks("digest", x, y.digest(), x::digest);
    }
}
