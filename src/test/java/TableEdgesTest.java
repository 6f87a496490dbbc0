import java.math.BigDecimal;

/** "Terms" 2 on TABLES and promises 13 to 18 sentence by sentence: each edge, and what lies beside it. */
final class TableEdgesTest {
    private static final Check CHECK = new Check("TableEdgesTest");
    private static final int NO_VALUE = -2000000000;
    private static final long NO_SUM = -1000000000000L;
    private static final int[] WRAPPED = {Integer.MIN_VALUE, Integer.MIN_VALUE + 1, -256, -2, Integer.MAX_VALUE, 1 << 30};

    private TableEdgesTest() {
    }

    public static void main(String[] args) {
        headsAheadOfTheFirstRule();
        feetBehindTheLastRule();
        noHeadsNoFeet();
        rowsOfTheBody();
        joinedCells();
        bytesAtTheEndsOfACell();
        bytesWithinACell();
        sizesOfFewAndMany();
        sizeRefused();
        rowsAndColumnsOfCells();
        bytesOfCells();
        cellsBehindLongerOnes();
        withoutATable();
        digitsOfANumber();
        bytesOfANumber();
        signAndPoint();
        valuesOfAllRows();
        columnsOfNumbers();
        columnsOfNumbersByMore();
        columnsRefused();
        sumsLeastAndGreatest();
        footAgreesOrQuarrels();
        sumThatWrapsQuarrels();
        CHECK.end();
    }

    // ---- ROWS

    private static void rows(String due, String... lines) {
        TableFinder x = Check.foundIn(lines);
        StringBuilder text = new StringBuilder();
        for (int row = 0; row <= x.size(1) + 1; row++) {
            text.append(row == 0 ? "" : " ").append('<').append(Check.rowText(x, row)).append('>');
        }
        CHECK.due("rows of " + String.join("/", lines), text.toString(), due);
    }

    /** "HEADS are PLAIN LINES ahead of the BLOCK's first RULE, if PLAIN ones are behind that, too" */
    private static void headsAheadOfTheFirstRule() {
        rows("<a> <b> <>", "a", "---", "b");
        rows("<a b> <c> <>", "a", "b", "---", "c");
        rows("<> <a> <>", "a", "---");
        rows("<> <a> <b> <>", "a", "b", "---");
        rows("<> <a> <>", "---", "a");
        rows("<> <a> <>", "a", "---", "---");
        rows("<a> <b> <>", "a", "---", "---", "b");
        rows("<a> <b> <>", "a", "---", "b", "---");
        rows("<a> <b> <c> <>", "a", "---", "---", "b", "c");
    }

    /** "FEET those behind its last RULE, if PLAIN ones are between the first RULE and that, and it has two RULES or more" */
    private static void feetBehindTheLastRule() {
        rows("<> <a> <b>", "---", "a", "---", "b");
        rows("<> <a> <b c>", "---", "a", "---", "b", "c");
        rows("<> <a> <b> <>", "---", "a", "b");
        rows("<> <a> <b> <>", "---", "---", "a", "b");
        rows("<> <a> <>", "---", "a", "---");
        rows("<> <a> <b>", "---", "a", "---", "---", "b");
        rows("<> <a> <b> <c>", "---", "a", "---", "b", "---", "c");
        rows("<h> <a> <b>", "h", "---", "a", "---", "b");
        rows("<h> <b> <>", "h", "---", "---", "b");
        rows("<h> <a> <b> <>", "h", "---", "a", "---", "b", "---");
    }

    /** "(A BLOCK without a RULE has BODY alone; with one it has no FEET.)" */
    private static void noHeadsNoFeet() {
        rows("<> <a> <>", "a");
        rows("<> <a> <b> <c> <>", "a", "b", "c");
        rows("<> <a> <--> <b> <>", "a", "--", "b");
        rows("<> <a> <b> <>", "---", "a", "b");
        rows("<a> <b> <c> <>", "a", "---", "b", "c");
        rows("<> <a> <b> <>", "a", "b", "---");
    }

    /** "each LINE of the BODY whose CELL in COLUMN 0 is not empty, or that is the first of the BODY, begins one" */
    private static void rowsOfTheBody() {
        rows("</> <a/1> </>", "a  1");
        rows("</> </1> <a/2> </>", "   1", "a  2");
        rows("</> </1 2> <a/3> </>", "   1", "   2", "a  3");
        rows("</> <a/1 2> <b/3> </>", "a  1", "   2", "b  3");
        rows("</> <a/1> <b/> <c/3> </>", "a  1", "b", "c  3");
        rows("</> <a/1 2 3> </>", "a  1", "|  2", "   3|");
        rows("</> <a/1 2> </>", "---", "a  1", "---", "   2", "---");
        rows("<h/i> </1> <a/2> </>", "h  i", "---", "   1", "a  2");
        rows("<h/i j> <a/1> </2 3>", "h  i", "   j", "---", "a  1", "---", "   2", "   3");
    }

    /** "a CELL that is not empty comes behind that of its COLUMN, one byte 32 between both, if that is not empty" */
    private static void joinedCells() {
        rows("<h/> <a/1> <b/2> </>", "h", "---", "a  1", "b  2");
        rows("<h i/j> <a/1> </>", "h", "   j", "i", "---", "a  1");
        rows("</> <a/> <b/2> </>", "a", "b  2");
        rows("</> <a/1> <b/2> </>", "a", "   1", "b  2");
        rows("<//> <a/1 2/3 4> <//>", "a  1  3", "   2", "      4");
        rows("<//> <a/1 2/3> <//>", "a  1", "   2  3");
        rows("<a  b wxyz> <c> <>", "a  b", "wxyz", "---", "c");
        rows("</> <a/1> <b/2 3 4 5> </>", "a  1", "b  2", "   3", "   4", "   5");
    }

    /** "from its first byte there that is not blank to its last one" */
    private static void bytesAtTheEndsOfACell() {
        for (int b = 32; b <= 126; b++) {
            String end = String.valueOf((char) b);
            boolean blank = b == ' ' || b == '|';
            rows("<> <" + (blank ? "x" : end + "x" + end) + "> <>", end + "x" + end);
        }
        rows("<> <x> <>", " | |x| | ");
        rows("<> <x> <>", " ".repeat(29) + "x" + "|".repeat(30));
    }

    /** "bars as blanks" */
    private static void bytesWithinACell() {
        for (int b = 32; b <= 126; b++) {
            rows("<> <x" + (b == '|' ? ' ' : (char) b) + "y> <>", "x" + (char) b + "y");
        }
        rows("<> <a  b> <wxyz> <>", "a||b", "wxyz");
        rows("<> <a  b> <wxyz> <>", "a |b", "wxyz");
    }

    // ---- promises 13 and 14

    private static String times(int count, String text) {
        return text + ("  " + text).repeat(count - 1);
    }

    private static void sizes(String due, TableFinder x) {
        CHECK.due("sizes", x.size(0) + " " + x.size(1) + " " + x.size(2) + " " + x.size(3), due);
    }

    /** "0 COLUMNS, 1 ROWS of the BODY, 2 whether the HEAD has something (1, 0), 3 whether the FOOT has" */
    private static void sizesOfFewAndMany() {
        for (int columns = 1; columns <= 8; columns++) {
            sizes(columns + " 1 0 0", Check.foundIn(times(columns, "a")));
        }
        for (int rows = 1; rows <= 24; rows++) {
            String[] lines = "a ".repeat(rows).split(" ");
            sizes("1 " + rows + " 0 0", Check.foundIn(lines));
        }
        sizes("1 1 1 0", Check.foundIn("h", "---", "a"));
        sizes("1 1 0 1", Check.foundIn("---", "a", "---", "f"));
        sizes("1 1 1 1", Check.foundIn("h", "---", "a", "---", "f"));
        sizes("2 1 1 1", Check.foundIn("   h", "---", "a  1", "---", "   f"));
        sizes("2 1 1 1", Check.foundIn("h", "---", "a  1", "---", "f"));
        TableFinder x = Check.foundIn("h", "---", "a", "b", "---", "f");
        x.find(2, 2);
        sizes("1 1 0 0", x);
        sizes("0 0 0 0", new TableFinder());
    }

    private static void sizeRefused() {
        TableFinder x = Check.foundIn("a");
        TableFinder none = new TableFinder();
        for (int what : WRAPPED) {
            CHECK.due("size " + what, x.size(what), -1);
            CHECK.due("size " + what + " without a table", none.size(what), -1);
        }
        for (int what = -1; what <= 4; what += 5) {
            CHECK.due("size " + what, x.size(what), -1);
            CHECK.due("size " + what + " without a table", none.size(what), -1);
        }
    }

    /** "ROW 0 the HEAD, 1 .. the BODY, behind that the FOOT" */
    private static void rowsAndColumnsOfCells() {
        TableFinder x = Check.foundIn("h", "---", "a", "b", "---", "f");
        rowsToTheFoot(x, 2, 1);
        CHECK.due("row 0", x.cell(0, 0, 0), 'h');
        CHECK.due("row 1", x.cell(1, 0, 0), 'a');
        CHECK.due("row 2", x.cell(2, 0, 0), 'b');
        CHECK.due("row 3", x.cell(3, 0, 0), 'f');
        rowsToTheFoot(Check.foundIn("a"), 1, 1);
        rowsToTheFoot(Check.foundIn(times(8, "a")), 1, 8);
        String[] all = "a ".repeat(20).split(" ");
        TableFinder forty = Check.foundIn(all);
        forty.more(0, 19);
        rowsToTheFoot(forty, 40, 1);
    }

    private static void rowsToTheFoot(TableFinder x, int rows, int columns) {
        for (int row = -1; row <= rows + 2; row++) {
            for (int column = -1; column <= columns; column++) {
                boolean there = row >= 0 && row <= rows + 1 && column >= 0 && column < columns;
                CHECK.due("cell(" + row + ", " + column + ", -1)", x.cell(row, column, -1) >= 0 ? 1 : 0, there ? 1 : 0);
                CHECK.due("value(" + row + ", " + column + ")", x.value(row, column), there ? NO_VALUE : NO_VALUE - 1);
            }
        }
        for (int wrapped : WRAPPED) {
            CHECK.due("row " + wrapped, x.cell(wrapped, 0, -1), -1);
            CHECK.due("column " + wrapped, x.cell(0, wrapped, -1), -1);
            CHECK.due("value of row " + wrapped, x.value(wrapped, 0), NO_VALUE - 1);
            CHECK.due("value of column " + wrapped, x.value(0, wrapped), NO_VALUE - 1);
        }
    }

    /** "Byte i of a CELL .. i = -1: how many. BAD." */
    private static void bytesOfCells() {
        for (int length : new int[] {1, 2, 59, 60}) {
            TableFinder x = Check.foundIn("y".repeat(length - 1) + "z", "u");
            CHECK.due("how many", x.cell(1, 0, -1), length);
            CHECK.due("byte 0", x.cell(1, 0, 0), length == 1 ? 'z' : 'y');
            CHECK.due("the last byte", x.cell(1, 0, length - 1), 'z');
            CHECK.due("behind it", x.cell(1, 0, length), -1);
            CHECK.due("byte 61", x.cell(1, 0, 61), -1);
            CHECK.due("an empty cell has none", x.cell(0, 0, -1), 0);
            CHECK.due("an empty cell", x.cell(0, 0, 0), -1);
            for (int i : WRAPPED) {
                CHECK.due("byte " + i, x.cell(1, 0, i), -1);
            }
        }
    }

    /** Behind the end of a CELL stands nothing of longer ones that were there before. */
    private static void cellsBehindLongerOnes() {
        TableFinder x = Check.pageOf("75", "1.25", "31.5", "7", "2.", "word", "", "f", "---", "g", "---", "h");
        for (int line = 0; line < 3; line++) {
            x.find(line, line);
        }
        int[] values = {7000, NO_VALUE, NO_VALUE};
        for (int line = 3; line < 6; line++) {
            x.find(line, line);
            CHECK.due("value of line " + line, x.value(1, 0), values[line - 3]);
            CHECK.due("behind its end", x.cell(1, 0, x.cell(1, 0, -1)), -1);
            CHECK.due("behind the foot", x.cell(3, 0, -1), -1);
            x.find(1, 2);
            x.find(1, 2);
        }
        x.find(7, 11);
        x.find(0, 1);
        x.find(2, 2);
        CHECK.due("no head left", x.cell(0, 0, -1), 0);
        CHECK.due("no foot left", x.cell(2, 0, -1), 0);
        CHECK.due("sizes", x.size(2) + x.size(3), 0);
    }

    private static void withoutATable() {
        TableFinder x = Check.pageOf("1", "---", "2", "---", "3");
        for (int i = 0; i < 2; i++) {
            CHECK.due("cell", x.cell(i, 0, -1), -1);
            CHECK.due("value", x.value(i, 0), NO_VALUE - 1);
            CHECK.due("numbers", x.numbers(i), -1);
            CHECK.due("sum", x.sum(i), NO_SUM - 1);
            CHECK.due("agrees", x.agrees(i), -1);
        }
        CHECK.due("lay", x.lay(), -2);
        x.find(0, 4);
        CHECK.due("value", x.value(1, 0), 2000);
    }

    // ---- promise 15

    /** "perhaps -, 1 to 6 digits, perhaps a point and 1 to 3 digits; its VALUE a thousand times it" */
    private static void digitsOfANumber() {
        for (int whole = 0; whole <= 9; whole++) {
            for (int parts = 0; parts <= 5; parts++) {
                String text = "987654321".substring(0, whole) + (parts == 0 ? "" : "." + "12345".substring(0, parts));
                boolean number = whole >= 1 && whole <= 6 && parts <= 3;
                if (!text.isEmpty()) {
                    valueOf(text, number);
                }
                valueOf("-" + text, number);
                valueOf("-" + text + ".", false);
            }
        }
        valueOf("000000", true);
        valueOf("0000000", false);
        valueOf("000001", true);
        valueOf("0000001", false);
        valueOf("1.000", true);
        valueOf("1.0000", false);
        valueOf("1".repeat(60), false);
        valueOf("-" + "1".repeat(59), false);
        valueOf("1." + "1".repeat(58), false);
    }

    private static void valueOf(String text, boolean number) {
        TableFinder x = Check.foundIn(text);
        int due = number ? new BigDecimal(text).movePointRight(3).intValueExact() : NO_VALUE;
        CHECK.due("value of " + text, x.value(1, 0), due);
        CHECK.due("numbers of " + text, x.numbers(0), number ? 1 : 0);
        CHECK.due("sum of " + text, x.sum(0), number ? due : NO_SUM - 2);
    }

    private static void bytesOfANumber() {
        for (int b = 33; b <= 126; b++) {
            String c = String.valueOf((char) b);
            boolean digit = b >= '0' && b <= '9';
            if (b != '|') {
                valueOf("1" + c + "2", digit || b == '.');
                valueOf(c + "7", digit || b == '-');
                valueOf("7" + c, digit);
                valueOf("7.5" + c, digit);
                valueOf("-" + c, digit);
            }
        }
        valueOf("1 2", false);
        valueOf("- 1", false);
        valueOf("1 .5", false);
        CHECK.due("a bar within", Check.foundIn("1|2").value(1, 0), NO_VALUE);
        CHECK.due("bars at the ends", Check.foundIn("|12|").value(1, 0), 12000);
        CHECK.due("blanks at the ends", Check.foundIn("  12 ").value(1, 0), 12000);
    }

    private static void signAndPoint() {
        String[] numbers = {"0", "-0", "-0.0", "0.001", "-0.001", "0.01", "0.1", "00.010", "999999.999", "-999999.999", "-1"};
        for (String text : numbers) {
            valueOf(text, true);
        }
        String[] words = {"-", "--", "--1", "-1-", "1-", "-.", ".", ".5", "-.5", "1..2", "1.2.3", "1.-2", "1e3", "+1", "1,5", "0x1"};
        for (String text : words) {
            valueOf(text, false);
        }
        CHECK.due("the greatest", Check.foundIn("999999.999").value(1, 0), 999999999);
        CHECK.due("the least", Check.foundIn("-999999.999").value(1, 0), -999999999);
    }

    private static void valuesOfAllRows() {
        TableFinder x = Check.foundIn("h  -1", "----", "a  2.5", "b  none", "c", "---", "t  3");
        int[] values = {-1000, 2500, NO_VALUE, NO_VALUE, 3000, NO_VALUE - 1};
        for (int row = 0; row < values.length; row++) {
            CHECK.due("value of row " + row, x.value(row, 1), values[row]);
        }
        CHECK.due("numbers joined are none", Check.foundIn("a  1", "   2").value(1, 1), NO_VALUE);
    }

    // ---- promises 16 to 18

    /** "if of its CELLS in ROWS of the BODY one is not empty, and all such are NUMBERS; else of WORDS" */
    private static void numbers(int due, String... lines) {
        TableFinder x = Check.foundIn(lines);
        int last = x.size(0) - 1;
        CHECK.due("numbers of " + String.join("/", lines), x.numbers(last), due);
        CHECK.due("sum of " + String.join("/", lines), x.sum(last) == NO_SUM - 2 ? 0 : 1, due);
    }

    private static void columnsOfNumbers() {
        numbers(1, "1");
        numbers(0, "w");
        numbers(1, "1", "2", "3");
        numbers(0, "w", "2", "3");
        numbers(0, "1", "w", "3");
        numbers(0, "1", "2", "w");
        numbers(1, "w", "---", "1");
        numbers(0, "1", "---", "w");
        numbers(1, "---", "1", "---", "w");
        numbers(0, "---", "w", "---", "1");
        numbers(1, "a  1", "b", "c");
        numbers(1, "a", "b", "c  1");
        numbers(0, "a  1", "b", "c  w");
        numbers(0, "h  1", "---", "a", "---", "f  2");
        numbers(0, "h  1", "---", "a");
        numbers(0, "---", "a", "---", "f  2");
        numbers(0, "a  1", "   2");
    }

    private static void columnsOfNumbersByMore() {
        TableFinder x = Check.pageOf("---", "a", "---", "f  2", "", "b  3", "", "c  w");
        x.find(0, 3);
        CHECK.due("all empty", x.numbers(1), 0);
        CHECK.due("sum of all empty", x.sum(1), NO_SUM - 2);
        x.more(5, 5);
        CHECK.due("one is a number", x.numbers(1), 1);
        CHECK.due("its sum", x.sum(1), 3000);
        x.more(7, 7);
        CHECK.due("one is not", x.numbers(1), 0);
        CHECK.due("no sum", x.sum(1), NO_SUM - 2);
    }

    private static void columnsRefused() {
        for (int columns = 1; columns <= 8; columns++) {
            TableFinder x = Check.foundIn(times(columns, "1"));
            for (int column = -1; column <= columns; column++) {
                boolean there = column >= 0 && column < columns;
                CHECK.due("numbers(" + column + ") of " + columns, x.numbers(column), there ? 1 : -1);
                CHECK.due("sum(" + column + ") of " + columns, x.sum(column), there ? 1000 : NO_SUM - 1);
                CHECK.due("agrees(" + column + ") of " + columns, x.agrees(column), there ? 0 : -1);
            }
            for (int column : WRAPPED) {
                CHECK.due("numbers(" + column + ")", x.numbers(column), -1);
                CHECK.due("sum(" + column + ")", x.sum(column), NO_SUM - 1);
                CHECK.due("agrees(" + column + ")", x.agrees(column), -1);
            }
        }
    }

    /** "All VALUES of the BODY of a COLUMN together." */
    private static void sumsLeastAndGreatest() {
        CHECK.due("head and foot are not of it", Check.foundIn("1", "---", "2", "3", "---", "4").sum(0), 5000);
        CHECK.due("to nothing", Check.foundIn("1", "-1").sum(0), 0);
        CHECK.due("below nothing", Check.foundIn("0.001", "-0.002").sum(0), -1);
        CHECK.due("empty ones are not of it", Check.foundIn("a  1", "b", "c  2").sum(1), 3000);
        for (String text : new String[] {"999999.999", "-999999.999"}) {
            TableFinder x = Check.foundIn((text + " ").repeat(20).split(" "));
            x.more(0, 19);
            CHECK.due("40 of " + text, x.sum(0), 40 * (text.charAt(0) == '-' ? -999999999L : 999999999L));
        }
        CHECK.due("beyond an int", Check.foundIn("999999.999", "999999.999", "147483.650").sum(0), 2147483648L);
        CHECK.due("the greatest int", Check.foundIn("999999.999", "999999.999", "147483.649").sum(0), 2147483647L);
    }

    private static void agrees(int due, String foot, String... numbers) {
        String[] lines = new String[numbers.length + 3];
        lines[0] = "---";
        for (int i = 0; i < numbers.length; i++) {
            lines[i + 1] = "a  " + numbers[i];
        }
        lines[numbers.length + 1] = "---";
        lines[numbers.length + 2] = "t  " + foot;
        TableFinder x = Check.foundIn(lines);
        CHECK.due(foot + " below " + String.join(", ", numbers), x.agrees(1), due);
        CHECK.due("the column of words", x.agrees(0), 0);
    }

    /** "AGREES .. if its CELL is a NUMBER, and its VALUE all VALUES of the BODY together; it QUARRELS .. another VALUE" */
    private static void footAgreesOrQuarrels() {
        agrees(1, "3", "1", "2");
        agrees(1, "3.000", "1", "2");
        agrees(2, "3.001", "1", "2");
        agrees(2, "2.999", "1", "2");
        agrees(2, "-3", "1", "2");
        agrees(1, "-0", "1", "-1");
        agrees(1, "0", "0");
        agrees(0, "three", "1", "2");
        agrees(0, "", "1", "2");
        agrees(0, "3.0000", "1", "2");
        agrees(0, "3", "1", "w");
        agrees(2, "3", "1", "  ", "3");
        agrees(1, "4", "1", "  ", "3");
        agrees(1, "999999.999", "999999.999");
        agrees(1, "-999999.999", "-999999.998", "-0.001");
        agrees(2, "999999.999", "999999.999", "0.001");
        CHECK.due("the head is not of it", Check.foundIn("1", "---", "2", "---", "2").agrees(0), 1);
        CHECK.due("no foot", Check.foundIn("1", "2").agrees(0), 0);
        CHECK.due("words", Check.foundIn("---", "a", "---", "2").agrees(0), 0);
        CHECK.due("none but empty ones", Check.foundIn("---", "a", "---", "t  0").agrees(1), 0);
    }

    /** 2^32 thousandths are 0 in an int, and with -1 in the FOOT one less. */
    private static void sumThatWrapsQuarrels() {
        agrees(2, "0", "999999.999", "999999.999", "999999.999", "999999.999", "294967.300");
        agrees(2, "-0.001", "999999.999", "999999.999", "999999.999", "999999.999", "294967.299");
        agrees(2, "1", "-999999.999", "-999999.999", "-999999.999", "-999999.999", "-294966.300");
    }
}
