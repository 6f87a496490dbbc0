/** Promises 13 to 19: the table. */
final class TableTest {
    private static final Check CHECK = new Check("TableTest");

    private TableTest() {
    }

    public static void main(String[] args) {
        parts();
        size();
        cell();
        value();
        numbersAndSum();
        agrees();
        layWithAll();
        layOfParts();
        layRefused();
        layAndReadAgain();
        CHECK.end();
    }

    /** Of which PLAIN LINES HEAD, BODY and FOOT are made: "h:b1,b2:f". */
    private static void parts() {
        partsOf(":a,b:", "a", "b");
        partsOf(":a,b:", "---", "a", "b");
        partsOf(":a,b:", "a", "b", "---");
        partsOf("a:b:", "a", "---", "b");
        partsOf("a b:c:", "a", "b", "---", "c");
        partsOf(":a:", "a", "---", "---");
        partsOf(":a:", "---", "---", "a");
        partsOf("a:b:", "a", "---", "---", "b");
        partsOf("a:b:", "a", "---", "b", "---");
        partsOf(":a:b", "---", "a", "---", "b");
        partsOf(":a:", "---", "a", "---");
        partsOf("a:b:c d", "a", "---", "b", "---", "c", "d");
        partsOf("a:b,c:d", "a", "---", "b", "===", "c", "---", "d");
        partsOf("a:b:c", "a", "---", "---", "b", "---", "---", "c");
        partsOf(":b:c", "---", "b", "---", "---", "c");
        partsOf("a:b,c:", "a", "---", "b", "---", "c", "---");
    }

    private static void partsOf(String want, String... lines) {
        TableFinder x = Check.pageOf(lines);
        x.find(0, lines.length - 1);
        StringBuilder text = new StringBuilder(Check.rowText(x, 0)).append(':');
        for (int row = 1; row <= x.size(1); row++) {
            text.append(row == 1 ? "" : ",").append(Check.rowText(x, row));
        }
        text.append(':').append(Check.rowText(x, x.size(1) + 1));
        CHECK.due("parts of " + String.join("/", lines), text.toString(), want);
        CHECK.due("whether a head", x.size(2), want.charAt(0) == ':' ? 0 : 1);
        CHECK.due("whether a foot", x.size(3), want.charAt(want.length() - 1) == ':' ? 0 : 1);
    }

    private static void size() {
        TableFinder x = Check.pageOf("a   1", "    2", "b   3");
        CHECK.due("bad without a table", x.size(4), -1);
        CHECK.due("bad", x.size(-1), -1);
        x.find(0, 2);
        CHECK.due("columns", x.size(0), 2);
        CHECK.due("rows", x.size(1), 2);
        CHECK.due("head", x.size(2), 0);
        CHECK.due("foot", x.size(3), 0);
        CHECK.due("bad", x.size(4), -1);
        CHECK.due("bad", x.size(Integer.MIN_VALUE), -1);
    }

    private static void cell() {
        TableFinder x = Check.pageOf("|  one|a  |  x  y |", "|     two | zzzzz |");
        x.find(0, 1);
        CHECK.due("bars as blanks, blanks within", Check.rowText(x, 1), "one a/x  y");
        CHECK.due("a line that begins a row", Check.rowText(x, 2), "two/zzzzz");
        TableFinder y = Check.pageOf("     1", "a    2", "    33", "b    4", "", "---", " .   x", "===", "     7", "     8");
        CHECK.due("find", y.find(0, 3), 2);
        CHECK.due("the first of the body begins a row", Check.rowText(y, 1), "/1");
        CHECK.due("joined", Check.rowText(y, 2), "a/2 33");
        CHECK.due("third", Check.rowText(y, 3), "b/4");
        CHECK.due("foot", Check.rowText(y, 4), "/");
        CHECK.due("find", y.find(5, 9), 2);
        CHECK.due("foot joined", Check.rowText(y, 2), "/7 8");
        CHECK.due("how many", y.cell(2, 1, -1), 3);
        CHECK.due("the last byte", y.cell(2, 1, 2), '8');
        CHECK.due("beyond", y.cell(2, 1, 3), -1);
        CHECK.due("i -2", y.cell(2, 1, -2), -1);
        CHECK.due("row -1", y.cell(-1, 0, -1), -1);
        CHECK.due("row 3", y.cell(3, 0, -1), -1);
        CHECK.due("column 2", y.cell(1, 2, -1), -1);
        CHECK.due("column -1", y.cell(1, -1, -1), -1);
        CHECK.due("greatest", y.cell(Integer.MAX_VALUE, Integer.MAX_VALUE, Integer.MAX_VALUE), -1);
        CHECK.due("an empty cell", y.cell(0, 0, -1), 0);
        CHECK.due("of an empty cell", y.cell(0, 0, 0), -1);
    }

    private static void value() {
        String[] texts = {"0", "-0", "7", "007", "-12.5", "0.25", "123456.789", "-999999.999", "1234567", "1.2345",
            "1.", ".5", "-", "--1", "1.2.3", "1 2", "1a", "a1", "-.5", "+1", "1-"};
        int none = -2000000000;
        int[] values = {0, 0, 7000, 7000, -12500, 250, 123456789, -999999999, none, none,
            none, none, none, none, none, none, none, none, none, none, none};
        TableFinder x = Check.pageOf(texts);
        for (int i = 0; i < texts.length; i++) {
            x.find(i, i);
            CHECK.due("value of " + texts[i], x.value(1, 0), values[i]);
            CHECK.due("numbers of " + texts[i], x.numbers(0), values[i] == none ? 0 : 1);
        }
        CHECK.due("an empty cell", x.value(0, 0), none);
        CHECK.due("the foot", x.value(2, 0), none);
        CHECK.due("row 3", x.value(3, 0), none - 1);
        CHECK.due("row -1", x.value(-1, 0), none - 1);
        CHECK.due("column 1", x.value(1, 1), none - 1);
        CHECK.due("no table", new TableFinder().value(0, 0), none - 1);
        TableFinder y = Check.pageOf("12", "---", "a", "---", "13");
        y.find(0, 4);
        CHECK.due("a number in the head", y.value(0, 0), 12000);
        CHECK.due("a number in the foot", y.value(2, 0), 13000);
    }

    private static void numbersAndSum() {
        TableFinder x = Check.pageOf("year     n  note", "----------------", "a        1", "b           12", "c     -0.5  x");
        CHECK.due("find", x.find(0, 4), 3);
        CHECK.due("words", x.numbers(0), 0);
        CHECK.due("numbers, one empty, a head of words", x.numbers(1), 1);
        CHECK.due("one is not", x.numbers(2), 0);
        CHECK.due("column 3", x.numbers(3), -1);
        CHECK.due("column -1", x.numbers(-1), -1);
        CHECK.due("sum of words", x.sum(0), -1000000000002L);
        CHECK.due("sum", x.sum(1), 500);
        CHECK.due("sum of column 3", x.sum(3), -1000000000001L);
        CHECK.due("sum of column -1", x.sum(-1), -1000000000001L);
        CHECK.due("sum without a table", new TableFinder().sum(0), -1000000000001L);
        TableFinder y = Check.pageOf("n  7", "----", "a", "----", "t  7");
        CHECK.due("find", y.find(0, 4), 2);
        CHECK.due("none is not empty", y.numbers(1), 0);
        CHECK.due("sum of none", y.sum(1), -1000000000002L);
        CHECK.due("agrees of none", y.agrees(1), 0);
        TableFinder z = new TableFinder();
        for (int i = 0; i < 20; i++) {
            Check.typeLine(z, "999999.999");
        }
        z.find(0, 19);
        z.more(0, 19);
        CHECK.due("more than an int holds", z.sum(0), 40L * 999999999);
    }

    private static void agrees() {
        agreesWith("1.5", 1);
        agreesWith("1.500", 1);
        agreesWith("-1.5", 2);
        agreesWith("2", 2);
        agreesWith("all", 0);
        agreesWith("  ", 0);
        TableFinder words = Check.pageOf("---", "a", "1", "---", "1");
        words.find(0, 4);
        CHECK.due("a number under words", words.agrees(0), 0);
        CHECK.due("column 1", words.agrees(1), -1);
        CHECK.due("column -1", words.agrees(-1), -1);
        CHECK.due("without a table", new TableFinder().agrees(0), -1);
        TableFinder none = Check.pageOf("1", "2");
        none.find(0, 1);
        CHECK.due("without a foot", none.agrees(0), 0);
    }

    private static void agreesWith(String foot, int want) {
        TableFinder x = Check.pageOf("---", "a    1", "b    0.5", "---", "t    " + foot);
        x.find(0, 4);
        CHECK.due("agrees with " + foot, x.agrees(1), want);
    }

    private static void layWithAll() {
        TableFinder x = Check.pageOf("name      kg  and", "-----------------", "oak       3    r", "elm tree  12   st",
            "      of   5", "=================", "all       20");
        CHECK.due("find", x.find(0, 6), 3);
        CHECK.due("joined", x.told(4), 0);
        String[] want = {"name      kg  and", "-----------------", "oak        3  r  ", "elm tree  12  st ",
            "of         5     ", "-----------------", "all       20     "};
        CHECK.due("lay", x.lay(), want.length);
        for (int i = 0; i < want.length; i++) {
            CHECK.due("line " + i, Check.lineText(x, i), want[i]);
        }
        CHECK.due("no line more", x.kind(want.length), -1);
        CHECK.due("the table stays", Check.rowText(x, 2), "elm tree/12/st");
    }

    private static void layOfParts() {
        TableFinder bare = Check.pageOf("a", "1");
        bare.find(0, 1);
        bare.type(Check.word("tape"), 4);
        CHECK.due("body alone", bare.lay(), 2);
        CHECK.due("line 0", Check.lineText(bare, 0), "a");
        CHECK.due("the tape stays", bare.type(65, 1), 5);
        TableFinder footed = Check.pageOf("---", "a", "---", "b");
        footed.find(0, 3);
        CHECK.due("a rule ahead", footed.lay(), 4);
        CHECK.due("rule of three", Check.lineText(footed, 0), "---");
        CHECK.due("body", Check.lineText(footed, 1), "a");
        CHECK.due("rule of three", Check.lineText(footed, 2), "---");
        CHECK.due("foot", Check.lineText(footed, 3), "b");
        TableFinder headed = Check.pageOf("head", "===", "1", "22");
        headed.find(0, 3);
        CHECK.due("a head of numbers", headed.lay(), 4);
        CHECK.due("head", Check.lineText(headed, 0), "head");
        CHECK.due("rule", Check.lineText(headed, 1), "----");
        CHECK.due("right", Check.lineText(headed, 2), "   1");
        TableFinder wideFoot = Check.pageOf("---", "7", "---", "total");
        wideFoot.find(0, 3);
        wideFoot.lay();
        CHECK.due("as wide as the foot", Check.lineText(wideFoot, 1), "    7");
        TableFinder narrowHead = Check.pageOf("h", "===", "1", "22");
        narrowHead.find(0, 3);
        narrowHead.lay();
        CHECK.due("head of numbers at the right", Check.lineText(narrowHead, 0), " h");
    }

    private static void layRefused() {
        TableFinder x = new TableFinder();
        CHECK.due("no table", x.lay(), -2);
        Check.typeLine(x, "h");
        Check.typeLine(x, "---");
        for (int i = 0; i < 22; i++) {
            Check.typeLine(x, "b");
        }
        CHECK.due("find", x.find(0, 23), 1);
        CHECK.due("24 lines", x.lay(), 24);
        CHECK.due("more", x.more(2, 2), 23);
        CHECK.due("25 lines", x.lay(), -3);
        CHECK.due("the page stays", x.kind(23), 2);
        layOfRulesRefused();
        TableFinder wide = Check.pageOf("a".repeat(29) + "  " + "b".repeat(29));
        CHECK.due("find", wide.find(0, 0), 2);
        CHECK.due("60 wide", wide.lay(), 1);
        TableFinder joined = Check.pageOf("aa  b", "    " + "b".repeat(54));
        CHECK.due("find", joined.find(0, 1), 2);
        CHECK.due("2 + 2 + 56 wide", joined.lay(), 1);
        CHECK.due("line 0", Check.lineText(joined, 0), "aa  b " + "b".repeat(54));
        TableFinder over = Check.pageOf("aa  b", "    " + "b".repeat(55));
        CHECK.due("find", over.find(0, 1), 2);
        CHECK.due("2 + 2 + 57 wide", over.lay(), -3);
        CHECK.due("the page stays", Check.lineText(over, 0), "aa  b");
    }

    /** A RULE ahead of the BODY takes a LINE, too, if there is a FOOT and no HEAD. */
    private static void layOfRulesRefused() {
        TableFinder x = Check.pageOf("---", "b", "b", "b", "---", "f");
        CHECK.due("find", x.find(0, 5), 1);
        for (int rows = 6; rows <= 21; rows += 3) {
            CHECK.due("more", x.more(0, 5), rows);
        }
        CHECK.due("24 lines", x.lay(), 24);
        CHECK.due("more", x.more(21, 21), 22);
        CHECK.due("its foot is empty", x.lay(), 22);
        TableFinder y = Check.pageOf("---", "b", "b", "---", "f");
        CHECK.due("find", y.find(0, 4), 1);
        for (int rows = 4; rows <= 22; rows += 2) {
            CHECK.due("more", y.more(0, 4), rows);
        }
        CHECK.due("25 lines", y.lay(), -3);
    }

    private static void layAndReadAgain() {
        TableFinder x = Check.pageOf("| name | n |", "+------+---+", "| a b  | 1 |", "| c    | 22|", "+------+---+", "| sum  | 23|");
        CHECK.due("find", x.find(0, 5), 2);
        CHECK.due("agrees", x.agrees(1), 1);
        CHECK.due("lay", x.lay(), 6);
        CHECK.due("line 2", Check.lineText(x, 2), "a b    1");
        CHECK.due("find again", x.find(0, 5), 2);
        CHECK.due("row", Check.rowText(x, 2), "c/22");
        CHECK.due("agrees again", x.agrees(1), 1);
        CHECK.due("more of the same", x.more(0, 3), 4);
    }
}
