/** Promises 8 to 12: reading. */
final class ReadingTest {
    private static final Check CHECK = new Check("ReadingTest");

    private ReadingTest() {
    }

    public static void main(String[] args) {
        blocks();
        costs();
        cutsOfCost();
        best();
        ties();
        next();
        findRefused();
        more();
        moreRefused();
        told();
        cutAt();
        CHECK.end();
    }

    /** What is a BLOCK, told by all calls that take one. */
    private static void blocks() {
        TableFinder x = Check.pageOf("a", "---", "", "b", " | ", "---", "===");
        int[][] bad = {{0, 2}, {2, 2}, {3, 4}, {1, 1}, {5, 6}, {1, 0}, {-1, 0}, {0, 7}, {7, 7},
            {Integer.MIN_VALUE, Integer.MAX_VALUE}, {0, Integer.MAX_VALUE}, {3, 24}};
        for (int[] ends : bad) {
            String name = "(" + ends[0] + ", " + ends[1] + ")";
            CHECK.due("cost" + name, x.cost(ends[0], ends[1], 0, 0), -1);
            CHECK.due("find" + name, x.find(ends[0], ends[1]), -1);
            CHECK.due("more" + name, x.more(ends[0], ends[1]), -1);
        }
        CHECK.due("no table by refusals", x.told(0), -2);
        CHECK.due("cost(0, 0)", x.cost(0, 0, 0, 0), 2);
        CHECK.due("find(0, 1)", x.find(0, 1), 1);
        CHECK.due("find(3, 3)", x.find(3, 3), 1);
    }

    private static void costs() {
        TableFinder x = Check.pageOf("ab  cd", "a  b|c", " || ef|", "------------");
        CHECK.due("no cuts, two rows of blanks, one single", x.cost(0, 0, 0, 0), 2 + 3);
        CHECK.due("blanks 2 wide and a bar alone", x.cost(1, 1, 0, 0), 2 + 3);
        CHECK.due("blanks ahead cost nothing", x.cost(2, 2, 0, 0), 2);
        CHECK.due("all", x.cost(0, 3, 0, 0), 2 + 3 + 3);
        CHECK.due("cut 1: crossed by the first", x.cost(0, 3, 1 << 1, 0), 4 + 6 + 3);
        CHECK.due("cut 2: row of blanks at a side", x.cost(0, 0, 1 << 2, 0), 4);
        CHECK.due("cut 3: amid the blanks", x.cost(0, 0, 1 << 3, 0), 4);
        CHECK.due("cut 5: crossed by one of three", x.cost(0, 2, 1 << 5, 0), 4 + 6 + 6 + 3 + 3);
        CHECK.due("a blank column", x.cost(0, 0, 1 << 2 | 1 << 4, 0), 6 + 20);
        CHECK.due("blank in some lines alone", x.cost(0, 1, 1 << 2 | 1 << 4, 0), 6);
        CHECK.due("rules do not count", x.cost(0, 3, 1 << 2 | 1 << 4, 0), 6);
        TableFinder y = Check.pageOf("|a||b|   c ");
        CHECK.due("bars are blank, wide rows cost once", y.cost(0, 0, 0, 0), 2 + 3 + 3);
        CHECK.due("blank column ahead", y.cost(0, 0, 1 << 1, 0), 4 + 20 + 6);
        CHECK.due("w is 10: cut 9", y.cost(0, 0, 1 << 9, 0), 4 + 3);
        CHECK.due("w is 10: cut 10", y.cost(0, 0, 1 << 10, 0), -1);
    }

    private static void cutsOfCost() {
        String full = "x".repeat(60);
        TableFinder x = Check.pageOf(full, "y");
        CHECK.due("bit 0 is not looked at", x.cost(0, 0, 1, 0), 2);
        CHECK.due("cut 31", x.cost(0, 0, Integer.MIN_VALUE, 0), 10);
        CHECK.due("cut 32", x.cost(0, 0, 0, 1), 10);
        CHECK.due("cut 59", x.cost(0, 0, 0, 1 << 27), 10);
        CHECK.due("cut 60", x.cost(0, 0, 0, 1 << 28), -1);
        CHECK.due("cut 63", x.cost(0, 0, 0, Integer.MIN_VALUE), -1);
        CHECK.due("seven", x.cost(0, 0, 0xFE, 0), 16 + 42);
        CHECK.due("seven and bit 0", x.cost(0, 0, 0xFF, 0), 16 + 42);
        CHECK.due("eight", x.cost(0, 0, 0x1FE, 0), -1);
        CHECK.due("all", x.cost(0, 0, -1, -1), -1);
        CHECK.due("w is 1", x.cost(1, 1, 0, 0), 2);
        CHECK.due("w is 1: cut 1", x.cost(1, 1, 2, 0), -1);
        CHECK.due("cost finds nothing", x.told(0), -2);
    }

    private static void best() {
        TableFinder x = Check.pageOf("oak    3  red", "elm   12  x", "yew    7  blue");
        CHECK.due("find", x.find(0, 2), 3);
        CHECK.due("cuts", Check.cutsText(x), "0 3 8 14");
        CHECK.due("cost", x.told(0), 6);
        CHECK.due("found again", x.find(1, 1), 3);
        CHECK.due("cuts", Check.cutsText(x), "0 3 8 11");
        TableFinder y = Check.pageOf("a  a  a  a  a  a  a  a  a  a");
        CHECK.due("eight columns at most", y.find(0, 0), 8);
        CHECK.due("two gaps are left", y.told(0), 16 + 6);
        CHECK.due("next", y.told(1), 16 + 6);
        CHECK.due("cuts", Check.cutsText(y), "0 1 4 7 10 13 16 19 28");
        TableFinder z = Check.pageOf("--", "--- - x");
        CHECK.due("dashes that are no rule", z.find(0, 1), 1);
        CHECK.due("told", z.told(2), 2);
    }

    private static void ties() {
        TableFinder x = Check.pageOf("a  b");
        CHECK.due("4 for two, 5 for one", x.find(0, 0), 2);
        CHECK.due("the first cut is least", Check.cutsText(x), "0 1 4");
        CHECK.due("next as dear", x.told(1), 4);
        TableFinder y = Check.pageOf("a  b", "c dd", "eeee");
        CHECK.due("one column: 5; two: cut 1 costs 10", y.find(0, 2), 1);
        CHECK.due("cost", y.told(0), 5);
        TableFinder z = Check.pageOf("ab   cd", "efg  hi");
        CHECK.due("two", z.find(0, 1), 2);
        CHECK.due("cut 3 is free for both, cut 2 is not", Check.cutsText(z), "0 3 7");
    }

    private static void next() {
        TableFinder x = Check.pageOf("x", "ab", "x y");
        CHECK.due("w is 1", x.find(0, 0), 1);
        CHECK.due("there is none", x.told(1), 1000000);
        CHECK.due("w is 2", x.find(1, 1), 1);
        CHECK.due("cut through", x.told(1), 10);
        CHECK.due("w is 3", x.find(2, 2), 1);
        CHECK.due("two columns", x.told(1), 4);
        TableFinder y = Check.pageOf("a   b", "cc  dd");
        CHECK.due("cuts 2, 3 and 4 are free", y.find(0, 1), 2);
        CHECK.due("the best and the next have as many columns", y.told(1), 4);
        TableFinder z = Check.pageOf("abc", "abc", "a  d");
        CHECK.due("cut 3 alone is free", z.find(0, 2), 2);
        CHECK.due("the least", z.told(0), 4);
        CHECK.due("the next has one column", z.told(1), 2 + 3);
    }

    private static void findRefused() {
        String half = "h".repeat(30);
        TableFinder x = Check.pageOf("a", half, half, "---", "b", half.substring(1), "---", "c");
        CHECK.due("find", x.find(0, 0), 1);
        CHECK.due("a head of 30 + 1 + 30", x.find(1, 4), -3);
        CHECK.due("told stays", x.told(2), 1);
        CHECK.due("the table stays", Check.rowText(x, 1), "a");
        CHECK.due("cuts stay", Check.cutsText(x), "0 1");
        x.set(2, 0, ' ');
        CHECK.due("a head of 30 + 1 + 29", x.find(1, 4), 1);
        CHECK.due("sixty", x.cell(0, 0, -1), 60);
        TableFinder foot = Check.pageOf("===", "b", "---", half, half);
        CHECK.due("a foot of 61", foot.find(0, 4), -3);
        TableFinder body = Check.pageOf("a  " + half, "   " + half);
        CHECK.due("a row of 61", body.find(0, 1), -3);
        CHECK.due("no table", body.size(0), 0);
        CHECK.due("nothing told", body.told(0), -2);
        CHECK.due("more without a table", body.more(0, 1), -2);
    }

    private static void more() {
        TableFinder x = Check.pageOf("n    v", "------", "a    1", "b    2", "------", "t    3", "",
            "n    v", "------", "c    4", "", "d    5", "     6", "e    7", "", "----", "f    8", "===", "s   27");
        CHECK.due("find", x.find(0, 5), 2);
        CHECK.due("more with the same head", x.more(7, 9), 3);
        CHECK.due("rows", Check.rowText(x, 3), "c/4");
        CHECK.due("its foot, which is empty, in place of that one's", x.size(3), 0);
        CHECK.due("head", Check.rowText(x, 0), "n/v");
        CHECK.due("told of the latest", x.told(2), 2);
        CHECK.due("told of the latest", x.told(3), 1);
        CHECK.due("more without a head", x.more(11, 13), 5);
        CHECK.due("a line joined", Check.rowText(x, 4), "d/5 6");
        CHECK.due("told of the latest", x.told(4), 1);
        CHECK.due("words by now", x.numbers(1), 0);
        CHECK.due("more with a foot", x.more(15, 18), 6);
        CHECK.due("foot", Check.rowText(x, 7), "s/27");
        CHECK.due("behind the foot", x.cell(8, 0, -1), -1);
        CHECK.due("head stays", x.size(2), 1);
    }

    private static void moreRefused() {
        TableFinder x = Check.pageOf("a    1", "b    2", "", "h    v", "------", "c    3", "", "word", "",
            "g    v", "------", "d    4");
        CHECK.due("no table", x.more(0, 1), -2);
        CHECK.due("no block before no table", x.more(2, 2), -1);
        CHECK.due("find", x.find(0, 1), 2);
        CHECK.due("a head, and none before", x.more(3, 5), -2);
        CHECK.due("other columns", x.more(7, 7), -2);
        CHECK.due("told stays", x.told(2), 2);
        CHECK.due("rows stay", x.size(1), 2);
        CHECK.due("find with a head", x.find(3, 5), 2);
        CHECK.due("another head", x.more(9, 11), -2);
        CHECK.due("none at all", x.more(0, 1), 3);
        rowsOfMore();
    }

    private static void rowsOfMore() {
        TableFinder x = new TableFinder();
        for (int i = 0; i < 24; i++) {
            Check.typeLine(x, "r" + (char) ('a' + i));
        }
        CHECK.due("find 24", x.find(0, 23), 1);
        CHECK.due("41", x.more(0, 16), -3);
        CHECK.due("rows stay", x.size(1), 24);
        CHECK.due("told stays", x.told(2), 24);
        CHECK.due("40", x.more(0, 15), 40);
        CHECK.due("the last", Check.rowText(x, 40), "rp");
        CHECK.due("foot", x.cell(41, 0, -1), 0);
        CHECK.due("behind", x.cell(42, 0, -1), -1);
        CHECK.due("one more", x.more(0, 0), -3);
        CHECK.due("lay of 40", x.lay(), -3);
        TableFinder y = Check.pageOf("a", "", "b  " + "h".repeat(30), "   " + "h".repeat(30));
        y.find(0, 0);
        CHECK.due("a cell of 61 comes before other columns", y.more(2, 3), -3);
        CHECK.due("rows stay", y.size(1), 1);
    }

    private static void told() {
        TableFinder x = Check.pageOf("h   i", "h2", "===", "---", "a   1", "    2", "    3", "- - -", "b   4", "---", "t", "u");
        CHECK.due("find", x.find(0, 11), 2);
        CHECK.due("plain", x.told(2), 8);
        CHECK.due("rules", x.told(3), 4);
        CHECK.due("joined", x.told(4), 2);
        CHECK.due("bad", x.told(5), -1);
        CHECK.due("bad", x.told(-1), -1);
        CHECK.due("bad before not", new TableFinder().told(5), -1);
        x.clear();
        CHECK.due("told without a page", x.told(2), 8);
    }

    private static void cutAt() {
        TableFinder x = Check.pageOf("|aa||bb|");
        CHECK.due("find", x.find(0, 0), 2);
        CHECK.due("0", x.cutAt(0), 0);
        CHECK.due("1", x.cutAt(1), 3);
        CHECK.due("w", x.cutAt(2), 7);
        CHECK.due("k + 1", x.cutAt(3), -1);
        CHECK.due("-1", x.cutAt(-1), -1);
        CHECK.due("greatest", x.cutAt(Integer.MAX_VALUE), -1);
    }
}
