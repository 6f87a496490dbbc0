import java.util.function.Supplier;
import java.util.function.ToLongFunction;

/**
 * "What is refused changes nothing": every refusal of every call, each on an object of its own, with all that the
 * object answers behind it.
 */
final class RefusalTest {
    private static final Check CHECK = new Check("RefusalTest");
    private static final int NO_VALUE = -2000000000;
    private static final long NO_SUM = -1000000000000L;
    private static final String THIRTY = "y".repeat(30);
    private static final long EIGHT = Check.word("ABCDEFGH");

    private RefusalTest() {
    }

    public static void main(String[] args) {
        refusedByThePage(RefusalTest::newOne);
        refusedByThePage(RefusalTest::ordinary);
        fullTape();
        fullPage();
        badBlocks(RefusalTest::newOne);
        badBlocks(RefusalTest::ordinary);
        badCuts();
        nothingWasFound();
        cellsTooLong();
        moreRefused();
        tooManyRows();
        noSuchPartOfTheTable(RefusalTest::newOne);
        noSuchPartOfTheTable(RefusalTest::ordinary);
        noTable();
        layTooLong();
        layTooWide();
        answersChangeNothing();
        goesOnBehindRefusals();
        CHECK.end();
    }

    // ---- objects to be refused

    private static TableFinder newOne() {
        return new TableFinder();
    }

    /** THE PAGE, what was found, a TABLE with all parts and THE TAPE: all have something. */
    private static TableFinder ordinary() {
        TableFinder x = Check.pageOf("n  v", "----", "a  1", "   2", "---", "t  3", " |", "---", "w", "p  q");
        x.find(0, 5);
        x.type(Check.word("tape"), 4);
        return x;
    }

    private static void refused(String name, long due, Supplier<TableFinder> made, ToLongFunction<TableFinder> call) {
        TableFinder x = made.get();
        CHECK.due(name, call.applyAsLong(x), due);
        CHECK.due(name + " changes nothing", State.of(x), State.of(made.get()));
    }

    // ---- 1 the page

    private static void refusedByThePage(Supplier<TableFinder> made) {
        refused("type, n 0", -1, made, x -> x.type(EIGHT, 0));
        refused("type, n 9", -1, made, x -> x.type(EIGHT, 9));
        refused("type, n -1", -1, made, x -> x.type(EIGHT, -1));
        refused("type, byte 31", -1, made, x -> x.type(31, 1));
        refused("type, byte 127", -1, made, x -> x.type(127, 1));
        refused("type, the last of eight bytes", -1, made, x -> x.type(EIGHT - 'H' + 10, 8));
        refused("type, the first of eight bytes", -1, made, x -> x.type(EIGHT | Long.MIN_VALUE, 8));
        refused("at, line -1", -1, made, x -> x.at(-1, 0));
        refused("at, line 10", -1, made, x -> x.at(10, 0));
        refused("at, line 24", -1, made, x -> x.at(24, 0));
        refused("at, place -1", -1, made, x -> x.at(0, -1));
        refused("at, place 60", -1, made, x -> x.at(0, 60));
        refused("kind, line -1", -1, made, x -> x.kind(-1));
        refused("kind, line 10", -1, made, x -> x.kind(10));
        refused("kind, line 24", -1, made, x -> x.kind(24));
        refused("set, line -1", -1, made, x -> x.set(-1, 0, 'z'));
        refused("set, line 10", -1, made, x -> x.set(10, 0, 'z'));
        refused("set, line 24", -1, made, x -> x.set(24, 0, 'z'));
        refused("set, place -1", -1, made, x -> x.set(1, -1, 'z'));
        refused("set, place 4", -1, made, x -> x.set(0, 4, 'z'));
        refused("set, place 60", -1, made, x -> x.set(0, 60, 'z'));
        refused("set, byte 31", -1, made, x -> x.set(0, 0, 31));
        refused("set, byte 127", -1, made, x -> x.set(0, 0, 127));
        refused("set, byte 256 + 65", -1, made, x -> x.set(0, 0, 256 + 65));
    }

    private static void fullTape() {
        for (int had = 53; had <= 60; had++) {
            int length = had;
            Supplier<TableFinder> made = () -> {
                TableFinder x = new TableFinder();
                Check.typeText(x, "x".repeat(length));
                return x;
            };
            refused("type of 8 behind " + had, -3, made, x -> x.type(EIGHT, 8));
            refused("type of one too many behind " + had, -3, made, x -> x.type(EIGHT, 61 - length));
            refused("type of a bad byte behind " + had, -1, made, x -> x.type(EIGHT << 8, 8));
            refused("type of none behind " + had, -1, made, x -> x.type(EIGHT, 0));
        }
    }

    private static TableFinder withFullPage() {
        TableFinder x = new TableFinder();
        for (int i = 0; i < 24; i++) {
            Check.typeLine(x, i == 1 ? "---" : String.valueOf((char) ('a' + i)));
        }
        x.find(0, 2);
        x.type(Check.word("tape"), 4);
        return x;
    }

    private static void fullPage() {
        refused("line 24", -3, RefusalTest::withFullPage, TableFinder::line);
        refused("at of line 24", -1, RefusalTest::withFullPage, x -> x.at(24, 0));
        refused("kind of line 24", -1, RefusalTest::withFullPage, x -> x.kind(24));
        refused("set of line 24", -1, RefusalTest::withFullPage, x -> x.set(24, 0, 'z'));
        refused("find to line 24", -1, RefusalTest::withFullPage, x -> x.find(0, 24));
        refused("more to line 24", -1, RefusalTest::withFullPage, x -> x.more(2, 24));
        refused("cost to line 24", -1, RefusalTest::withFullPage, x -> x.cost(2, 24, 0, 0));
    }

    // ---- 2 reading

    private static void badBlocks(Supplier<TableFinder> made) {
        int[][] bad = {{-1, 0}, {0, -1}, {2, 0}, {6, 6}, {1, 1}, {7, 7}, {5, 6}, {6, 8}, {0, 8}, {9, 10}, {10, 10}, {24, 24},
            {0, Integer.MAX_VALUE}, {Integer.MIN_VALUE, 0}, {Integer.MAX_VALUE, Integer.MIN_VALUE}};
        for (int[] ends : bad) {
            int a = ends[0];
            int b = ends[1];
            String name = "(" + a + ", " + b + ")";
            refused("cost" + name, -1, made, x -> x.cost(a, b, 0, 0));
            refused("find" + name, -1, made, x -> x.find(a, b));
            refused("more" + name, -1, made, x -> x.more(a, b));
        }
    }

    private static void badCuts() {
        Supplier<TableFinder> made = RefusalTest::ordinary;
        refused("a cut at w", -1, made, x -> x.cost(0, 5, 1 << 4, 0));
        refused("cuts before w and at w", -1, made, x -> x.cost(0, 5, 1 << 3 | 1 << 4, 0));
        refused("cut 31", -1, made, x -> x.cost(0, 5, Integer.MIN_VALUE, 0));
        refused("cut 32", -1, made, x -> x.cost(0, 5, 0, 1));
        refused("cut 63", -1, made, x -> x.cost(0, 5, 0, Integer.MIN_VALUE));
        refused("all cuts", -1, made, x -> x.cost(0, 5, -1, -1));
        Supplier<TableFinder> wide = () -> Check.foundIn("x".repeat(60));
        refused("eight cuts", -1, wide, x -> x.cost(0, 0, 0x1FE, 0));
        refused("eight cuts at both sides", -1, wide, x -> x.cost(0, 0, 0x1E, 0xF));
    }

    private static void nothingWasFound() {
        Supplier<TableFinder> made = () -> Check.pageOf("a", "b");
        for (int what = 0; what < 5; what++) {
            int told = what;
            refused("told(" + what + ")", -2, made, x -> x.told(told));
        }
        for (int i = -1; i < 3; i++) {
            int cut = i;
            refused("cutAt(" + i + ")", -1, made, x -> x.cutAt(cut));
        }
        refused("told(-1)", -1, made, x -> x.told(-1));
        refused("told(5)", -1, made, x -> x.told(5));
        refused("told(-1) of what was found", -1, RefusalTest::ordinary, x -> x.told(-1));
        refused("told(5) of what was found", -1, RefusalTest::ordinary, x -> x.told(5));
        refused("cutAt(-1) of what was found", -1, RefusalTest::ordinary, x -> x.cutAt(-1));
        refused("cutAt(3) of what was found", -1, RefusalTest::ordinary, x -> x.cutAt(3));
    }

    /** LINES 0 to 1 are found, or nothing is; from LINE 3 on stands what has no room. */
    private static TableFinder withLongCells(boolean found, String... lines) {
        TableFinder x = Check.pageOf("a  1", "   2", "");
        for (String line : lines) {
            Check.typeLine(x, line);
        }
        if (found) {
            x.find(0, 1);
        }
        x.type(Check.word("tape"), 4);
        return x;
    }

    private static void cellsTooLong() {
        String[][] pages = {{THIRTY, THIRTY, "---", "b"}, {"---", "b", "---", THIRTY, THIRTY}, {"b  " + THIRTY, "   " + THIRTY},
            {"b", "c  " + THIRTY, "   " + THIRTY, "d"}};
        for (String[] page : pages) {
            int last = 2 + page.length;
            String name = " of " + String.join("/", page);
            refused("find" + name, -3, () -> withLongCells(false, page), x -> x.find(3, last));
            refused("find" + name, -3, () -> withLongCells(true, page), x -> x.find(3, last));
            refused("more without a table" + name, -2, () -> withLongCells(false, page), x -> x.more(3, last));
            refused("more" + name, -3, () -> withLongCells(true, page), x -> x.more(3, last));
        }
    }

    /** more() of some LINES behind a TABLE of others; slashes stand between LINES. */
    private static void moreOf(long due, String before, String behind) {
        String[] one = before.split("/");
        String[] two = behind.split("/");
        Supplier<TableFinder> made = () -> {
            TableFinder x = Check.foundIn(one);
            x.line();
            for (String line : two) {
                Check.typeLine(x, line);
            }
            x.type(Check.word("tape"), 4);
            return x;
        };
        refused("more of " + behind + " behind " + before, due, made, x -> x.more(one.length + 1, one.length + two.length));
    }

    private static void moreRefused() {
        moreOf(-2, "a  1", "b");
        moreOf(-2, "a", "b  2");
        moreOf(-2, "n  v/---/a  1/---/t  1", "b  2  x/---/c  3  y/---/t  5  z");
        moreOf(-2, "a  1", "n  v/---/b  2");
        moreOf(-2, "n  v/---/a  1/---/t  1", "n  w/---/b  2/---/t  3");
        moreOf(-2, "n  v/---/a  1", "n  vv/---/b  2");
        moreOf(-2, "n  v/---/a  1", "m  v/---/b  2");
        moreOf(-1, "n  v/---/a  1", "---");
        moreOf(-3, "a", "b  " + THIRTY + "/   " + THIRTY);
        refused("more without a table", -2, () -> Check.pageOf("a  1"), x -> x.more(0, 0));
        refused("more without a table, no block", -1, () -> Check.pageOf("---"), x -> x.more(0, 0));
    }

    /** 24 ROWS of one COLUMN, or 40. */
    private static TableFinder withRows(int rows) {
        TableFinder x = new TableFinder();
        for (int i = 0; i < 24; i++) {
            Check.typeLine(x, i == 20 ? "a  b" : i == 22 ? "---" : "a");
        }
        x.find(0, 19);
        x.more(0, rows - 21);
        x.type('t', 1);
        return x;
    }

    private static void tooManyRows() {
        refused("40 and 1", -3, () -> withRows(40), x -> x.more(0, 0));
        refused("40 and 20", -3, () -> withRows(40), x -> x.more(0, 19));
        refused("24 and 17", -3, () -> withRows(24), x -> x.more(0, 16));
        refused("40 and one of other columns", -2, () -> withRows(40), x -> x.more(20, 20));
        refused("40 and one with a head", -2, () -> withRows(40), x -> x.more(21, 23));
        refused("40 and no block", -1, () -> withRows(40), x -> x.more(22, 22));
    }

    // ---- 3 the table

    private static void noSuchPartOfTheTable(Supplier<TableFinder> made) {
        int[] rows = {-1, 3, 41, 42, Integer.MIN_VALUE, Integer.MAX_VALUE};
        int[] columns = {-1, 2, 8, Integer.MIN_VALUE, Integer.MAX_VALUE};
        int[] bytes = {-2, 3, 60, Integer.MIN_VALUE, Integer.MAX_VALUE};
        for (int row : rows) {
            refused("cell of row " + row, -1, made, x -> x.cell(row, 0, -1));
            refused("value of row " + row, NO_VALUE - 1, made, x -> x.value(row, 0));
        }
        for (int column : columns) {
            refused("cell of column " + column, -1, made, x -> x.cell(1, column, -1));
            refused("value of column " + column, NO_VALUE - 1, made, x -> x.value(1, column));
            refused("numbers of column " + column, -1, made, x -> x.numbers(column));
            refused("sum of column " + column, NO_SUM - 1, made, x -> x.sum(column));
            refused("agrees of column " + column, -1, made, x -> x.agrees(column));
        }
        for (int i : bytes) {
            refused("byte " + i + " of a cell", -1, made, x -> x.cell(1, 1, i));
        }
        refused("size -1", -1, made, x -> x.size(-1));
        refused("size 4", -1, made, x -> x.size(4));
    }

    private static void noTable() {
        Supplier<TableFinder> made = () -> Check.pageOf("1", "---", "2");
        refused("lay", -2, made, TableFinder::lay);
        refused("cell", -1, made, x -> x.cell(0, 0, -1));
        refused("value", NO_VALUE - 1, made, x -> x.value(0, 0));
        refused("numbers", -1, made, x -> x.numbers(0));
        refused("sum", NO_SUM - 1, made, x -> x.sum(0));
        refused("agrees", -1, made, x -> x.agrees(0));
        refused("sum of words", NO_SUM - 2, RefusalTest::ordinary, x -> x.sum(0));
        refused("value of a word", NO_VALUE, RefusalTest::ordinary, x -> x.value(1, 0));
    }

    private static void layTooLong() {
        refused("lay of 25 lines", -3, () -> withRows(25), TableFinder::lay);
        refused("lay of 40 lines", -3, () -> withRows(40), TableFinder::lay);
    }

    private static void layTooWide() {
        Supplier<TableFinder> made = () -> {
            TableFinder x = Check.foundIn("a".repeat(30), "c" + " ".repeat(29) + "1".repeat(29));
            x.type(Check.word("tape"), 4);
            return x;
        };
        refused("lay of 61 bytes", -3, made, TableFinder::lay);
    }

    // ---- what is not refused and what comes behind

    private static void answersChangeNothing() {
        Supplier<TableFinder> made = RefusalTest::ordinary;
        refused("at", 'n', made, x -> x.at(0, 0));
        refused("kind", 1, made, x -> x.kind(1));
        refused("cost", 2 + 2, made, x -> x.cost(8, 9, 2, 0));
        refused("told", 2, made, x -> x.told(3));
        refused("cutAt", 4, made, x -> x.cutAt(2));
        refused("size", 2, made, x -> x.size(0));
        refused("cell", ' ', made, x -> x.cell(1, 1, 1));
        refused("value", 3000, made, x -> x.value(2, 1));
        refused("numbers", 0, made, x -> x.numbers(1));
        refused("agrees", 0, made, x -> x.agrees(1));
    }

    private static void goesOnBehindRefusals() {
        TableFinder x = withLongCells(true, "b  " + THIRTY, "   " + THIRTY, "", "c", "", "d  4");
        String before = State.found(x) + State.table(x);
        for (int i = 0; i < 3; i++) {
            CHECK.due("find", x.find(3, 4), -3);
            CHECK.due("more", x.more(3, 4), -3);
            CHECK.due("more", x.more(6, 6), -2);
            CHECK.due("as before", State.found(x) + State.table(x), before);
        }
        CHECK.due("more", x.more(8, 8), 2);
        CHECK.due("row 1", Check.rowText(x, 1), "a/1 2");
        CHECK.due("row 2", Check.rowText(x, 2), "d/4");
        CHECK.due("found", State.found(x), "\nfound 4 4 1 0 0 cuts 0 1 4");
        CHECK.due("lay", x.lay(), 2);
        CHECK.due("page", State.page(x), "page <a  1 2> <d  4  >");
    }
}
