/**
 * Promises 22 to 24 at their boundaries: one test for each sentence of the document that names one. The
 * comment in front of a test gives the words that it holds the class to.
 */
public final class TextEdgesTest {
    private static final int MAX = Integer.MAX_VALUE;
    private static final int MIN = Integer.MIN_VALUE;
    private static final String SEVEN_ROWS = "00/11/00/11/00/11/02";

    private TextEdgesTest() {
    }

    public static void main(String[] args) {
        Due.runAll(TextEdgesTest.class, 22, 24);
    }

    private static void type(IceField x, int bytes) {
        for (int i = 0; i < bytes; i++) {
            x.append('1');
        }
    }

    private static void reads(String text, long volume) {
        IceField x = new IceField();
        Due.type(x, text);
        Due.is("the volume of " + text, volume, x::parse);
    }

    /** A syntax error position, told by an answer that changes and saves nothing. */
    private static void errs(String text, int position) {
        IceField x = new IceField();
        x.sawAround(5, 1, 1);
        Due.type(x, text);
        long before = x.digest();
        Due.is("the error in \"" + text + "\"", -10 - position, x::parse);
        Due.is("\"" + text + "\" changes nothing", before, x::digest);
        Due.is("the text stays", text.length(), x::clearText);
        Due.is("\"" + text + "\" saves nothing", 0, x::undo);
    }

    // ---- promise 22: append

    /** "value: the byte, 0 to 127" */
    static void promise22ByteOfZeroIsTheLeast() {
        IceField x = new IceField();
        Due.is("length", 1, () -> x.append(0));
        Due.is("the byte counts", 1, x::clearText);
    }

    /** "value: the byte, 0 to 127" */
    static void promise22ByteOf127IsTheMost() {
        IceField x = new IceField();
        Due.is("length", 1, () -> x.append(127));
        Due.is("the byte counts", 1, x::clearText);
    }

    /** "IllegalArgumentException if value is out of range" */
    static void promise22ByteTooSmall() {
        IceField x = new IceField();
        Due.arguments(x, x::append, -1, -128, MIN);
    }

    /** "IllegalArgumentException if value is out of range" */
    static void promise22ByteTooLarge() {
        IceField x = new IceField();
        Due.arguments(x, x::append, 128, 255, 256 + '1', MAX);
    }

    /** "The text has at most 60 bytes"; "Returns the new length" */
    static void promise22SixtyBytesAreTheMost() {
        IceField x = new IceField();
        for (int length = 1; length <= 60; length++) {
            Due.is("length", length, () -> x.append('1'));
        }
    }

    /** "IllegalStateException if the text has 60 bytes" */
    static void promise22FullText() {
        IceField x = new IceField();
        type(x, 60);
        Due.states(x, x::append, 0, '1', 127);
        Due.is("length", 60, x::clearText);
    }

    /** "the one that is listed first is thrown" */
    static void promise22TheByteIsLookedAtFirst() {
        IceField x = new IceField();
        type(x, 60);
        Due.arguments(x, x::append, -1, 128);
    }

    /** "A call that throws an exception changes nothing": the bytes of the text stay, too. */
    static void promise22RefusedChangesNoByte() {
        IceField x = new IceField();
        Due.type(x, "12/3");
        Due.arguments(x, x::append, -1, 128);
        x.append('4');
        Due.is("read", 10, x::parse);
        IceField y = new IceField();
        Due.type(y, "1111111/1111111/1111111/1111111/1111111/1111111/1111111");
        type(y, 5);
        Due.states(y, y::append, '/');
        Due.is("the bytes are the same", -10 - 55, y::parse);
    }

    /** "The saved state contains everything except the text." */
    static void promise22IsNotUndoable() {
        IceField x = new IceField();
        x.append('1');
        Due.state("undo", x, x::undo);
        Due.is("length", 1, x::clearText);
    }

    // ---- promise 23: clearText

    /** "Returns the length that it had.": of an empty text */
    static void promise23EmptyText() {
        IceField x = new IceField();
        Due.is("length", 0, x::clearText);
    }

    /** "Returns the length that it had.": of a full text, which then has room for 60 bytes again */
    static void promise23FullText() {
        IceField x = new IceField();
        type(x, 60);
        Due.is("length", 60, x::clearText);
        type(x, 60);
        Due.state("full again", x, () -> x.append('1'));
        Due.is("length", 60, x::clearText);
    }

    /** "Empties the text." */
    static void promise23IsEmptyThen() {
        IceField x = new IceField();
        Due.type(x, "12/34");
        Due.is("length", 5, x::clearText);
        Due.is("length then", 0, x::clearText);
        Due.is("no field to read", -10, x::parse);
        Due.is("first byte", 1, () -> x.append('5'));
        Due.is("nothing of the longer text is read", -11, x::parse);
    }

    /** "The saved state contains everything except the text." */
    static void promise23IsNotUndoable() {
        IceField x = new IceField();
        Due.type(x, "12/34");
        x.clearText();
        Due.state("undo", x, x::undo);
        Due.is("length", 0, x::clearText);
    }

    // ---- promise 24: parse

    /** "or the length of the text if the text ends too early (also if it is empty ..)" */
    static void promise24EmptyText() {
        errs("", 0);
    }

    /** "a "/" where a row has too few digits": none */
    static void promise24SlashAtTheStart() {
        errs("/", 0);
        errs("/12/34", 0);
    }

    /** "a "/" where a row has too few digits": one */
    static void promise24SlashBehindOneDigit() {
        errs("1/", 1);
        errs("1/2/3", 1);
    }

    /** "each with as many digits as the first one, 2 to 7" */
    static void promise24TwoDigitsAreTheLeast() {
        reads("12/34", 10);
    }

    /** "each with as many digits as the first one, 2 to 7" */
    static void promise24SevenDigitsAreTheMost() {
        reads("1234567/7654321", 56);
    }

    /** "a digit too many in a row": eight in the first one */
    static void promise24EightDigits() {
        errs("12345678", 7);
        errs("12345678/12345678", 7);
    }

    /** "a digit too many in a row": more than the first one has */
    static void promise24RowLongerThanTheFirstOne() {
        errs("12/345", 5);
        errs("12/34/567", 8);
        errs("1234567/12345678", 15);
    }

    /** "a "/" where a row has too few digits": fewer than the first one has */
    static void promise24RowShorterThanTheFirstOne() {
        errs("123/45/678", 6);
        errs("1234567/123456/1", 14);
        errs("12/3/", 4);
        errs("12/34/56/7/", 10);
    }

    /** "a "/" where a row has too few digits": none in the middle */
    static void promise24EmptyRow() {
        errs("12//34", 3);
        errs("12/34//", 6);
    }

    /** "the length of the text if the text ends too early": in the first row */
    static void promise24EndsInTheFirstRow() {
        errs("1", 1);
        errs("12", 2);
        errs("1234567", 7);
    }

    /** "if the text ends too early (also if it .. ends behind a "/")" */
    static void promise24EndsBehindASlash() {
        errs("12/", 3);
        errs("12/34/", 6);
        errs("1234567/1234567/", 16);
    }

    /** "the length of the text if the text ends too early": in a row with too few digits */
    static void promise24EndsInAShortRow() {
        errs("12/3", 4);
        errs("12/34/5", 7);
        errs("1234567/123456", 14);
    }

    /** "There are 2 to 7 rows" */
    static void promise24TwoRowsAreTheLeast() {
        IceField x = Due.read("123/456");
        Due.is("height", 2, () -> x.value(1));
        Due.is("width", 3, () -> x.value(0));
        errs("123", 3);
    }

    /** "There are 2 to 7 rows" */
    static void promise24SevenRowsAreTheMost() {
        IceField x = Due.read(SEVEN_ROWS);
        Due.is("height", 7, () -> x.value(1));
        Due.is("width", 2, () -> x.value(0));
        Due.is("last cell", 2, () -> x.cell(13, 0));
    }

    /** "the "/" behind a seventh row, too" */
    static void promise24SlashBehindTheSeventhRow() {
        errs(SEVEN_ROWS + "/", 20);
        errs(SEVEN_ROWS + "/11", 20);
    }

    /** "a digit too many in a row": in the seventh one */
    static void promise24DigitBehindTheSeventhRow() {
        errs(SEVEN_ROWS + "1", 20);
    }

    /** "the first byte that cannot stand where it stands": no digit, and no "/" */
    static void promise24OtherBytes() {
        char[] others = {0, 1, '\n', ' ', '-', '.', ':', ';', 'a', 'A', 'O', 127};
        for (char other : others) {
            errs(String.valueOf(other), 0);
            errs("1" + other, 1);
            errs("12" + other + "34", 2);
            errs("12/3" + other, 4);
            errs("12/34" + other, 5);
        }
    }

    /** "the first byte that cannot stand where it stands": of several ones */
    static void promise24TheFirstErrorCounts() {
        errs("1a/b", 1);
        errs("123/4/56789", 5);
        errs("12/345/x", 5);
        errs("x12345678", 0);
    }

    /** "each byte of a row is a digit, the thickness of a cell (0 to 9)" */
    static void promise24EachDigitIsAThickness() {
        IceField x = Due.read("01234/56789");
        Due.are("thickness", n -> x.cell(n, 0), 0, 1, 2, 3, 4, 5, 6, 7, 8, 9);
        Due.is("laid", 45, () -> x.value(9));
    }

    /** "Returns the volume that is laid": nothing is no syntax error. */
    static void promise24VolumeOfZero() {
        IceField x = new IceField();
        Due.type(x, "00/00");
        Due.is("volume", 0, x::parse);
        Due.is("ice cells", 0, () -> x.value(2));
        Due.is("undoable", 0, x::undo);
    }

    /** The longest text that is a field: 55 bytes. */
    static void promise24GreatestField() {
        IceField x = new IceField();
        Due.type(x, "9999999/9999999/9999999/9999999/9999999/9999999/9999998");
        Due.is("volume", 440, x::parse);
        Due.is("last cell", 8, () -> x.cell(48, 0));
        Due.is("length", 55, x::clearText);
    }

    /** The longest text of all: 60 bytes, none of which is looked at behind the error. */
    static void promise24FullText() {
        errs("111111111111111111111111111111111111111111111111111111111111", 7);
        errs("1111111/1111111/1111111/1111111/1111111/1111111/1111111/1111", 55);
        errs("1111111/1111111/1111111/1111111/1111111/1111111/111111111111", 55);
    }

    /** "without cuts, in place of the field" */
    static void promise24InPlaceOfTheField() {
        IceField x = Due.singleCells();
        Due.type(x, "12/34");
        x.parse();
        Due.is("cuts", 0, () -> x.value(6));
        Due.is("one block", 4, () -> x.block(3, 1));
        Due.is("in the field", 10, () -> x.value(10));
        Due.index("cell of the greater field", x, () -> x.cell(4, 0));
    }

    /** "all counts are anew" */
    static void promise24CountsAreAnew() {
        IceField x = new IceField();
        x.sawAround(12, 4, 1);
        x.takeOut(12);
        x.lay(0, 5);
        x.pass(2);
        Due.type(x, "12/34");
        x.parse();
        Due.are("value", x::value, 2, 2, 4, 1, 0, 0, 0, 1, 0, 10, 10, 0, 0, 0);
        Due.index("no taken block is kept", x, () -> x.taken(0, 0));
    }

    /** "The melt stays." */
    static void promise24MeltStays() {
        IceField x = new IceField();
        Due.type(x, "12/34");
        x.setMelt(0);
        x.parse();
        Due.is("0", 0, () -> x.value(7));
        x.setMelt(9);
        x.parse();
        Due.is("9", 9, () -> x.value(7));
    }

    /** "The text stays as it is." */
    static void promise24TheTextStays() {
        IceField x = new IceField();
        Due.type(x, "12/34");
        Due.is("once", 10, x::parse);
        Due.is("twice", 10, x::parse);
        x.append('/');
        Due.is("with more", -16, x::parse);
        Due.is("length", 6, x::clearText);
    }

    /** "Undoable, if there is no syntax error."; "The saved state contains everything except the text." */
    static void promise24Undoable() {
        IceField x = new IceField();
        Due.type(x, "12/34");
        long before = x.digest();
        x.parse();
        Due.is("undo", 0, x::undo);
        Due.is("undone, but for the text", before, x::digest);
        Due.is("the text stays", 10, x::parse);
    }

    /** "Undoable" ".. even if the call changes nothing" */
    static void promise24UndoableWithoutAChange() {
        IceField x = Due.read("12/34");
        long before = x.digest();
        Due.is("the same once more", 10, x::parse);
        Due.is("undo", 1, x::undo);
        Due.is("undone", before, x::digest);
    }

    /** "if there is a syntax error (then nothing changes)": a saved state is not dropped, either. */
    static void promise24AnErrorDropsNoSavedState() {
        IceField x = new IceField();
        for (int melt = 2; melt <= 5; melt++) {
            x.setMelt(melt);
        }
        Due.type(x, "12/345");
        Due.is("error", -15, x::parse);
        Due.is("undo", 3, x::undo);
        Due.is("undo", 2, x::undo);
        Due.is("undo", 1, x::undo);
        Due.is("undo", 0, x::undo);
        Due.is("the first state", 1, () -> x.value(7));
    }
}
