/** Promises 1 to 7: the page. */
final class PageTest {
    private static final Check CHECK = new Check("PageTest");
    private static final String SIXTY = "abcdefghijklmnopqrstuvwxyz0123456789ABCDEFGHIJKLMNOPQRSTUVWX";

    private PageTest() {
    }

    public static void main(String[] args) {
        constants();
        newObject();
        type();
        line();
        clear();
        at();
        kind();
        set();
        CHECK.end();
    }

    private static void constants() {
        CHECK.due("BAD", TableFinder.BAD, -1);
        CHECK.due("NOT", TableFinder.NOT, -2);
        CHECK.due("FULL", TableFinder.FULL, -3);
    }

    private static void newObject() {
        TableFinder x = new TableFinder();
        CHECK.due("clear of a new page", x.clear(), 0);
        CHECK.due("kind of a new page", x.kind(0), -1);
        CHECK.due("at of a new page", x.at(0, 0), -1);
        CHECK.due("told of a new object", x.told(0), -2);
        CHECK.due("cutAt of a new object", x.cutAt(0), -1);
        for (int what = 0; what < 4; what++) {
            CHECK.due("size of a new object", x.size(what), 0);
        }
        CHECK.due("cell of a new object", x.cell(0, 0, -1), -1);
        CHECK.due("lay of a new object", x.lay(), -2);
        CHECK.due("first type", x.type(65, 1), 1);
        CHECK.due("objects share nothing", new TableFinder().type(65, 1), 1);
    }

    private static void type() {
        TableFinder x = new TableFinder();
        CHECK.due("n 0", x.type(65, 0), -1);
        CHECK.due("n 9", x.type(65, 9), -1);
        CHECK.due("n 9 with eight good bytes", x.type(Check.word("12345678"), 9), -1);
        CHECK.due("n -1", x.type(65, -1), -1);
        CHECK.due("n least", x.type(65, Integer.MIN_VALUE), -1);
        CHECK.due("byte 31", x.type(31, 1), -1);
        CHECK.due("byte 127", x.type(127, 1), -1);
        CHECK.due("byte 255", x.type(255, 1), -1);
        CHECK.due("byte 0 above", x.type(65, 2), -1);
        CHECK.due("byte 0 below", x.type(65L << 8, 2), -1);
        CHECK.due("byte 32", x.type(32, 1), 1);
        CHECK.due("byte 126", x.type(126, 1), 2);
        CHECK.due("higher bytes are not looked at", x.type(-1L << 16 | 'y' << 8 | 'z', 2), 4);
        CHECK.due("eight", x.type(Check.word("12345678"), 8), 12);
        CHECK.due("line", x.line(), 0);
        CHECK.due("the highest first", Check.lineText(x, 0), " ~yz12345678");
        CHECK.due("56", Check.typeText(x, SIXTY.substring(0, 56)), 56);
        CHECK.due("five more", x.type(Check.word("AAAAA"), 5), -3);
        CHECK.due("bad before full", x.type(10, 8), -1);
        CHECK.due("four more", x.type(Check.word("UVWX"), 4), 60);
        CHECK.due("one more", x.type(65, 1), -3);
        CHECK.due("line of 60", x.line(), 1);
        CHECK.due("sixty", Check.lineText(x, 1), SIXTY);
    }

    private static void line() {
        TableFinder x = new TableFinder();
        CHECK.due("an empty one", x.line(), 0);
        CHECK.due("no bytes", Check.lineText(x, 0), "");
        CHECK.due("line 1", Check.typeLine(x, "one"), 1);
        CHECK.due("the tape is empty", x.type(66, 1), 1);
        for (int i = 2; i < 24; i++) {
            CHECK.due("line", x.line(), i);
        }
        CHECK.due("tape before", x.type(67, 1), 1);
        CHECK.due("24", x.line(), -3);
        CHECK.due("the tape stays", x.type(68, 1), 2);
        CHECK.due("clear", x.clear(), 24);
        CHECK.due("line after clear", x.line(), 0);
        CHECK.due("what stood on the tape", Check.lineText(x, 0), "CD");
    }

    private static void clear() {
        TableFinder x = Check.pageOf("longer line", "2");
        x.type(Check.word("ab"), 2);
        CHECK.due("find", x.find(0, 1), 1);
        CHECK.due("clear", x.clear(), 2);
        CHECK.due("again", x.clear(), 0);
        CHECK.due("kind", x.kind(0), -1);
        CHECK.due("the table stays", Check.cellText(x, 1, 0), "longer line");
        CHECK.due("told stays", x.told(2), 2);
        CHECK.due("the tape stays", x.type(99, 1), 3);
        CHECK.due("line", x.line(), 0);
        CHECK.due("nothing of the old line", Check.lineText(x, 0), "abc");
        CHECK.due("beyond", x.at(0, 5), 32);
    }

    private static void at() {
        TableFinder x = Check.pageOf("a|b");
        CHECK.due("0", x.at(0, 0), 'a');
        CHECK.due("a bar", x.at(0, 1), '|');
        CHECK.due("last", x.at(0, 2), 'b');
        CHECK.due("beyond", x.at(0, 3), 32);
        CHECK.due("59", x.at(0, 59), 32);
        CHECK.due("60", x.at(0, 60), -1);
        CHECK.due("-1", x.at(0, -1), -1);
        CHECK.due("line 1", x.at(1, 0), -1);
        CHECK.due("line -1", x.at(-1, 0), -1);
        CHECK.due("line greatest", x.at(Integer.MAX_VALUE, 0), -1);
        CHECK.due("i greatest", x.at(0, Integer.MAX_VALUE), -1);
        CHECK.due("line 24", x.at(24, 0), -1);
    }

    private static void kind() {
        String[] lines = {"", "   ", " || ", "---", "--", "-=-", "| -+= =|", "+++", "+--", "--- x", "-- -", "===", "a", "- -|-"};
        int[] kinds = {0, 0, 0, 1, 2, 1, 1, 2, 2, 2, 1, 1, 2, 1};
        TableFinder x = Check.pageOf(lines);
        for (int i = 0; i < lines.length; i++) {
            CHECK.due("kind of <" + lines[i] + ">", x.kind(i), kinds[i]);
        }
        CHECK.due("kind beyond", x.kind(lines.length), -1);
        CHECK.due("kind -1", x.kind(-1), -1);
        CHECK.due("kind least", x.kind(Integer.MIN_VALUE), -1);
    }

    private static void set() {
        TableFinder x = Check.pageOf("--x", "");
        CHECK.due("set", x.set(0, 2, '='), 'x');
        CHECK.due("kind is seen anew", x.kind(0), 1);
        CHECK.due("set 126", x.set(0, 0, 126), '-');
        CHECK.due("at", x.at(0, 0), 126);
        CHECK.due("set 32", x.set(0, 0, 32), 126);
        CHECK.due("byte 31", x.set(0, 0, 31), -1);
        CHECK.due("byte 127", x.set(0, 0, 127), -1);
        CHECK.due("byte 0", x.set(0, 0, 0), -1);
        CHECK.due("at its length", x.set(0, 3, 65), -1);
        CHECK.due("-1", x.set(0, -1, 65), -1);
        CHECK.due("an empty line", x.set(1, 0, 65), -1);
        CHECK.due("line 2", x.set(2, 0, 65), -1);
        CHECK.due("line -1", x.set(-1, 0, 65), -1);
        CHECK.due("nothing changed", Check.lineText(x, 0), " -=");
        TableFinder y = Check.pageOf("abc");
        y.find(0, 0);
        y.set(0, 0, 'X');
        CHECK.due("the table stays", Check.cellText(y, 1, 0), "abc");
    }
}
