/** "Terms" 2 on READINGS and promises 8 to 12 sentence by sentence: each edge, and what lies on either side of it. */
final class ReadingEdgesTest {
    private static final Check CHECK = new Check("ReadingEdgesTest");
    private static final int[] WRAPPED = {Integer.MIN_VALUE, Integer.MIN_VALUE + 1, -256, -1, Integer.MAX_VALUE, 1 << 30};

    private ReadingEdgesTest() {
    }

    public static void main(String[] args) {
        allBlocks();
        blockOfWholePage();
        blockNumbersThatWrap();
        widthOfPlainLines();
        cutsBelowTheWidth();
        eachBitIsAPlace();
        sevenCutsAtMost();
        costOfCuts();
        costOfColumns();
        costOfBlanks();
        costOfMany();
        costLeavesAll();
        oneToEightColumns();
        columnsThatPay();
        firstCutThatDiffersIsLess();
        nextOfAllOthers();
        readBehindOthers();
        tableStays();
        pageAndTapeStay();
        cellOfSixtyFound();
        cellOfSixtyJoined();
        moreGoesTogether();
        moreOfUnlikeHeads();
        moreTakesTheFoot();
        fortyRows();
        refusalsOfMoreInOrder();
        toldOfFewAndMany();
        toldRefused();
        toldOfMore();
        cutsOfEachNumber();
        CHECK.end();
    }

    // ---- what a BLOCK is

    /** "A BLOCK are LINES a to b, one of them PLAIN at least, none EMPTY." */
    private static void allBlocks() {
        String kinds = "PRERRPPER";
        for (int a = -1; a <= kinds.length(); a++) {
            for (int b = -1; b <= kinds.length(); b++) {
                boolean inside = a >= 0 && b < kinds.length() && a <= b;
                String part = inside ? kinds.substring(a, b + 1) : "";
                boolean block = part.contains("P") && !part.contains("E");
                TableFinder x = pageOfKinds(kinds);
                String ends = "(" + a + ", " + b + ")";
                CHECK.due("cost" + ends, x.cost(a, b, 0, 0), block ? 2 : -1);
                CHECK.due("more without a table" + ends, x.more(a, b), block ? -2 : -1);
                CHECK.due("find" + ends, x.find(a, b), block ? 1 : -1);
                CHECK.due("told" + ends, x.told(0), block ? 2 : -2);
                x.find(0, 0);
                CHECK.due("more" + ends, x.more(a, b) > 0 ? 1 : 0, block ? 1 : 0);
            }
        }
    }

    private static TableFinder pageOfKinds(String kinds) {
        TableFinder x = new TableFinder();
        for (char kind : kinds.toCharArray()) {
            Check.typeLine(x, kind == 'P' ? "p" : kind == 'R' ? "---" : " |");
        }
        return x;
    }

    private static void blockOfWholePage() {
        TableFinder x = pageOfKinds("R".repeat(23) + "P");
        CHECK.due("23 rules and a plain line", x.find(0, 23), 1);
        CHECK.due("line 24", x.find(0, 24), -1);
        CHECK.due("23 rules", x.find(0, 22), -1);
        CHECK.due("the last line", x.find(23, 23), 1);
        CHECK.due("b below a", x.find(23, 22), -1);
        TableFinder y = pageOfKinds("P".repeat(24));
        CHECK.due("24 plain lines", y.find(0, 23), 1);
        CHECK.due("all of them", y.told(2), 24);
        CHECK.due("from -1", y.find(-1, 23), -1);
    }

    private static void blockNumbersThatWrap() {
        TableFinder x = pageOfKinds("PP");
        for (int wrapped : WRAPPED) {
            CHECK.due("cost to " + wrapped, x.cost(0, wrapped, 0, 0), -1);
            CHECK.due("cost from " + wrapped, x.cost(wrapped, 1, 0, 0), -1);
            CHECK.due("find to " + wrapped, x.find(0, wrapped), -1);
            CHECK.due("find from " + wrapped, x.find(wrapped, 1), -1);
            CHECK.due("more to " + wrapped, x.more(0, wrapped), -1);
            CHECK.due("more from " + wrapped, x.more(wrapped, 1), -1);
            CHECK.due("all of " + wrapped, x.find(wrapped, wrapped), -1);
        }
        CHECK.due("nothing found", x.told(0), -2);
    }

    // ---- promise 8: CUTS

    /** "w being the greatest number of a place at which a PLAIN LINE is not blank and 1" */
    private static void widthOfPlainLines() {
        widthOf(3, "abc");
        widthOf(3, "abc   ");
        widthOf(3, "abc|||");
        widthOf(3, "abc", "------");
        widthOf(3, "======", "abc", "a");
        widthOf(3, "a", "ab", "  c");
        widthOf(5, "a", "    e", "b");
        widthOf(1, "a");
        widthOf(1, "a||||");
        widthOf(2, "|a|");
        widthOf(60, " ".repeat(59) + "x");
    }

    private static void widthOf(int width, String... lines) {
        TableFinder x = Check.pageOf(lines);
        x.find(0, lines.length - 1);
        CHECK.due("w of " + String.join("/", lines), x.cutAt(x.size(0)), width);
        int last = lines.length - 1;
        CHECK.due("a cut at w", x.cost(0, last, low(width), high(width)), -1);
        CHECK.due("a cut before w", x.cost(0, last, low(width - 1), high(width - 1)) > 0 ? 1 : 0, 1);
    }

    private static int low(int place) {
        return place < 32 ? 1 << place : 0;
    }

    private static int high(int place) {
        return place < 32 ? 0 : 1 << place - 32;
    }

    /** "BAD: also .. a CUT at w or beyond" */
    private static void cutsBelowTheWidth() {
        for (int width = 1; width <= 60; width++) {
            TableFinder x = Check.pageOf("x".repeat(width));
            for (int place : new int[] {1, width - 1, width, width + 1, 31, 32, 59, 60, 62, 63}) {
                int due = place == 0 ? 2 : place < width ? 10 : -1;
                CHECK.due("w " + width + ", cut " + place, x.cost(0, 0, low(place), high(place)), due);
            }
        }
    }

    /** "1 .. 31 in low (bit 0 is not looked at), 32 and more in high (bit k for 32 + k)" */
    private static void eachBitIsAPlace() {
        for (int blank = 1; blank < 59; blank++) {
            TableFinder x = Check.pageOf("x".repeat(blank) + " " + "x".repeat(59 - blank));
            for (int place = Math.max(1, blank - 1); place <= Math.min(59, blank + 2); place++) {
                int due = place == blank || place == blank + 1 ? 4 : 10;
                CHECK.due("blank " + blank + ", cut " + place, x.cost(0, 0, low(place), high(place)), due);
                CHECK.due("with bit 0, too", x.cost(0, 0, low(place) | 1, high(place)), due);
            }
            for (int place = 60; place < 64; place++) {
                CHECK.due("blank " + blank + ", cut " + place, x.cost(0, 0, low(place), high(place)), -1);
            }
            CHECK.due("bit 0 alone", x.cost(0, 0, 1, 0), 2);
        }
    }

    /** "CUTS .. k 1 to 8" and "BAD: also .. more than 7" */
    private static void sevenCutsAtMost() {
        TableFinder x = Check.pageOf("x".repeat(60));
        for (int count = 0; count <= 10; count++) {
            int due = count > 7 ? -1 : 2 + 8 * count;
            CHECK.due(count + " from 1 on", x.cost(0, 0, (1 << count) - 1 << 1, 0), due);
            CHECK.due(count + " from 1 on and bit 0", x.cost(0, 0, (1 << count) - 1 << 1 | 1, 0), due);
            CHECK.due(count + " from 32 on", x.cost(0, 0, 0, (1 << count) - 1), due);
            CHECK.due(count + " up to 59", x.cost(0, 0, 0, (1 << count) - 1 << 28 - count), due);
            CHECK.due(count + " up to 31", x.cost(0, 0, count == 0 ? 0 : -1 << 32 - count, 0), due);
            int half = count / 2;
            CHECK.due(count + " at both sides of 32", x.cost(0, 0, half == 0 ? 0 : -1 << 32 - half, (1 << count - half) - 1), due);
        }
        CHECK.due("all bits", x.cost(0, 0, -1, -1), -1);
        CHECK.due("all bits of low", x.cost(0, 0, -1, 0), -1);
        CHECK.due("all bits of high", x.cost(0, 0, 0, -1), -1);
    }

    // ---- promise 8: the COST

    private static void cost(int due, String places, String... lines) {
        int low = 0;
        int high = 0;
        for (String place : places.split(" ")) {
            if (!place.isEmpty()) {
                low |= low(Integer.parseInt(place));
                high |= high(Integer.parseInt(place));
            }
        }
        TableFinder x = Check.pageOf(lines);
        CHECK.due("cost of <" + String.join("/", lines) + "> cut at " + places, x.cost(0, lines.length - 1, low, high), due);
    }

    /** "of each CUT but the first and the last 6 for each PLAIN LINE that is not blank at both places beside it" */
    private static void costOfCuts() {
        cost(2, "", "ab");
        cost(4 + 6, "1", "ab");
        cost(4, "1", "a b");
        cost(4, "2", "a b");
        cost(4, "1", "a|b");
        cost(4, "2", "a|b");
        cost(4 + 6, "1", "ab", "a", " b");
        cost(4 + 12, "1", "ab", "cd");
        cost(4 + 12, "1", "ab", "---", "cd");
        cost(4 + 6, "2", "a", "abc");
        cost(4, "2", "ab", "  c");
        cost(6 + 12, "1 2", "abc");
        cost(6 + 6, "1 2", "ab c");
        cost(6 + 6, "3 4", "a  bc", "|||b|");
    }

    /** "of each COLUMN 2; 20 more, if all PLAIN LINES are blank in it" */
    private static void costOfColumns() {
        cost(2, "", "a");
        cost(4, "1", "a b");
        cost(6, "1 3", "a  b", "  c");
        cost(6 + 20, "1 3", "a  b");
        cost(6 + 20, "1 3", "a||b");
        cost(6 + 20, "1 2", "a b");
        cost(6 + 20, "1 2", "a b", "---");
        cost(6, "1 2", "a b", " -");
        cost(4 + 20, "1", " a");
        cost(4 + 20, "3", "|||a", "    b");
        cost(6 + 40, "1 2", "  a");
        cost(10 + 40, "1 3 4 6", "a  b  c");
        cost(16 + 120, "1 2 3 4 5 6 7", "a      " + "b" + "c".repeat(52));
    }

    /** "of each PLAIN LINE 3 for each row of two or more blanks with something before and behind it in the COLUMN" */
    private static void costOfBlanks() {
        cost(2, "", "a b");
        cost(2, "", "a|b");
        cost(2 + 3, "", "a  b");
        cost(2 + 3, "", "a||b");
        cost(2 + 3, "", "a| b");
        cost(2 + 3, "", "a   b");
        cost(2 + 3, "", "a" + " ".repeat(58) + "b");
        cost(2, "", "  a b");
        cost(2, "", "a", "   b  ");
        cost(2 + 6, "", "a  b  c");
        cost(2 + 3, "", "a  b c");
        cost(2 + 6, "", "a  b", "c   d");
        cost(2 + 3, "", "a  b", "=  ==");
        cost(4, "1", "a  b");
        cost(4, "2", "a  b");
        cost(4, "3", "a  b");
        cost(4 + 6 + 3, "1", "ab  c");
        cost(4 + 6 + 3, "4", "a  bc");
        cost(4 + 3, "4", "a  b  c");
        cost(4 + 3, "3", "a  b  c");
        cost(4, "4", "a   |   b");
    }

    private static void costOfMany() {
        String[] inks = new String[24];
        String[] gaps = new String[24];
        for (int i = 0; i < 24; i++) {
            inks[i] = "x".repeat(60);
            gaps[i] = "x  ".repeat(19) + "x";
        }
        cost(16 + 7 * 24 * 6, "1 2 30 31 32 33 59", inks);
        cost(2 + 19 * 24 * 3, "", gaps);
        cost(16 + 12 * 24 * 3, "1 4 7 10 13 16 19", gaps);
    }

    private static void costLeavesAll() {
        TableFinder x = Check.pageOf("a  b", "c  d");
        x.find(0, 0);
        x.type('t', 1);
        String before = State.found(x) + State.table(x);
        CHECK.due("cost", x.cost(0, 1, 4, 0), 4);
        CHECK.due("found and table", State.found(x) + State.table(x), before);
        CHECK.due("page", State.page(x), "page <a  b> <c  d>");
        CHECK.due("tape", x.type('u', 1), 2);
    }

    // ---- promise 9: THE BEST and THE NEXT

    private static void best(String cuts, int best, int next, String... lines) {
        TableFinder x = Check.pageOf(lines);
        String name = " of <" + String.join("/", lines) + ">";
        CHECK.due("find" + name, x.find(0, lines.length - 1), cuts.split(" ").length - 1);
        CHECK.due("cuts" + name, Check.cutsText(x), cuts);
        CHECK.due("best" + name, x.told(0), best);
        CHECK.due("next" + name, x.told(1), next);
    }

    /** "CUTS .. k 1 to 8": a ninth COLUMN is not to be had. */
    private static void oneToEightColumns() {
        best("0 1", 2, 1000000, "a");
        best("0 1 4", 4, 4, "a  a");
        best("0 1 4 7", 6, 6, "a  a  a");
        best("0 1 4 7 10 13 16 19", 14, 14, "a" + "  a".repeat(6));
        best("0 1 4 7 10 13 16 19 22", 16, 16, "a" + "  a".repeat(7));
        best("0 1 4 7 10 13 16 19 25", 16 + 3, 16 + 3, "a" + "  a".repeat(8));
        best("0 1 4 7 10 13 16 19 58", 16 + 36, 16 + 36, "a" + "  a".repeat(19));
    }

    /** "THE BEST costs least" */
    private static void columnsThatPay() {
        best("0 3", 2, 4, "a b");
        best("0 1 4", 4, 4, "a  b");
        best("0 4", 2 + 3, 4 + 6, "a  b", "wxyz");
        best("0 4", 2 + 6, 4 + 6, "a  b", "c  d", "wxyz");
        best("0 1 4", 4 + 6, 4 + 6, "a  b", "c  d", "e  f", "wxyz");
        best("0 2 4", 4, 5, "a  b", "st", "  uv");
        best("0 2", 2, 24, " a");
        best("0 10", 2, 24, " ".repeat(9) + "a");
    }

    /** "of these the first CUT that differs less" */
    private static void firstCutThatDiffersIsLess() {
        best("0 2 6", 4, 4, "ab   c", "a    c");
        best("0 1 4 7", 6, 6, "a  b  c");
        best("0 3 7 10", 6, 6, "a b|  c  d", "abc    d");
        best("0 1 4 7 10 13 16 19 26", 16 + 3, 16 + 3, "a" + "  a".repeat(7) + "   a");
    }

    /** "THE NEXT: the least COST of all others." and "1000000: there is none" */
    private static void nextOfAllOthers() {
        best("0 1", 2, 1000000, "a", "b", "---", "c");
        best("0 3 6 11", 6, 6, "ab  cd   ef", "abc", "   dd");
        best("0 2", 2, 10, "ab");
        best("0 2", 2, 2 + 2 + 12, "ab", "cd");
        best("0 3", 2, 4, "ab", "  c");
        best("0 3 6", 4, 5, "abc", "a  def", "   ghi");
        best("0 2 4", 4, 4 + 6, "ab", "  cd", "a  d", "a  d", "a  d");
        best("0 2 4", 4, 2 + 9, "ab", "ab", "  cd", "  cd", "a  d", "a  d", "a  d");
        best("0 2 4", 4, 4 + 6, "ab", "  cd", "  cd", "a  d", "a  d", "a  d");
        best("0 2 4", 4, 4 + 6, "ab", "ab", "  cd", "a  d", "a  d", "a  d");
    }

    /** What was FOUND before leaves nothing behind in what is FOUND now. */
    private static void readBehindOthers() {
        TableFinder x = Check.pageOf("a  1", "---", "c  2", "---", "e  3");
        x.find(0, 4);
        CHECK.due("with rules", State.found(x) + State.table(x), "\nfound 4 4 3 2 0 cuts 0 1 4"
            + "\ntable 2 1 1 1 <a/1> <c/2> <e/3> -1000000000002 0 2000 2");
        x.set(1, 1, 'b');
        x.set(3, 1, 'd');
        x.find(0, 4);
        CHECK.due("without rules", State.found(x) + State.table(x), "\nfound 4 11 5 0 0 cuts 0 3 4"
            + "\ntable 2 5 0 0 </> <a/1> <-b-/> <c/2> <-d-/> <e/3> </> -1000000000002 0 6000 0");
        x.find(0, 0);
        CHECK.due("one line", State.found(x) + State.table(x), "\nfound 4 4 1 0 0 cuts 0 1 4"
            + "\ntable 2 1 0 0 </> <a/1> </> -1000000000002 0 1000 0");
    }

    /** "its TABLE is what is told from then on, whatever becomes of THE PAGE" */
    private static void tableStays() {
        TableFinder x = Check.pageOf("n  v", "----", "a  1", "---", "t  1");
        x.find(0, 4);
        String due = State.found(x) + State.table(x);
        x.set(2, 0, '|');
        x.set(2, 3, '9');
        CHECK.due("behind set", State.found(x) + State.table(x), due);
        Check.typeLine(x, "b  2");
        CHECK.due("behind line", State.found(x) + State.table(x), due);
        x.clear();
        CHECK.due("behind clear", State.found(x) + State.table(x), due);
        CHECK.due("lay without a page", x.lay(), 5);
        CHECK.due("behind lay", State.found(x) + State.table(x), due);
        CHECK.due("what was laid", State.page(x), "page <n  v> <----> <a  1> <----> <t  1>");
    }

    /** find() and more() leave THE PAGE and THE TAPE as they are. */
    private static void pageAndTapeStay() {
        TableFinder x = Check.pageOf("h  i", "---", "a  |1|", "    2", "", "b  3");
        x.type(Check.word("tape"), 4);
        String page = State.page(x);
        CHECK.due("find", x.find(0, 3), 2);
        CHECK.due("behind find", State.page(x), page);
        CHECK.due("more", x.more(5, 5), 2);
        CHECK.due("behind more", State.page(x), page);
        CHECK.due("the tape", x.type('!', 1), 5);
        CHECK.due("line", x.line(), 6);
        CHECK.due("the tape as a line", State.page(x), page + " <tape!>");
    }

    // ---- promises 9 and 10: what is FULL

    /** "each CELL 60 bytes" */
    private static void cellOfSixtyFound() {
        TableFinder x = Check.pageOf("x".repeat(60));
        CHECK.due("a cell of 60", x.find(0, 0), 1);
        CHECK.due("its length", x.cell(1, 0, -1), 60);
        CHECK.due("its last byte", x.cell(1, 0, 59), 'x');
        CHECK.due("behind it", x.cell(1, 0, 60), -1);
        CHECK.due("more of it", x.more(0, 0), 2);
    }

    /** "FULL: .. a CELL (as they would be JOINED)", in HEAD, BODY and FOOT. */
    private static void cellOfSixtyJoined() {
        String one = "y".repeat(30);
        for (int behind = 28; behind <= 31; behind++) {
            String two = "z".repeat(behind);
            int length = 30 + 1 + behind;
            joined(length, 0, "a", one, two, "---", "b", "---", "f");
            joined(length, 0, "a", one.substring(15), one.substring(16), two, "---", "b", "---", "f");
            joined(length, 2, "a", "h", "---", "b", "---", one, two);
            joined(length, 1, "a  b", "a  " + one, "   " + two);
            joined(length, 2, "a  b", "a  " + one, "b  " + one, "   " + two);
        }
        String long57 = "a  " + "y".repeat(57);
        joined(57 + 1 + 2, 1, "a  b", long57, "   zz");
        joined(57 + 1 + 3, 1, "a  b", long57, "   zzz");
        joined(57 + 1 + 2, 0, "a  b", long57, "   zz", "b", "---", "c  d");
        joined(57 + 1 + 2 + 1 + 1, 0, "a  b", long57, "   zz", "b  z", "---", "c  d");
    }

    /** The last CELL of a ROW has a length, or would have; more() of it comes behind a TABLE of one LINE. */
    private static void joined(int length, int row, String table, String... lines) {
        int last = lines.length - 1;
        boolean room = length <= 60;
        String name = " of " + length + " bytes in row " + row + " of " + String.join("/", lines);
        TableFinder x = Check.pageOf(lines);
        int columns = x.find(0, last);
        CHECK.due("find" + name, columns == -3 ? 0 : 1, room ? 1 : 0);
        CHECK.due("the cell" + name, x.cell(row, columns - 1, -1), room ? length : -1);
        TableFinder y = Check.pageOf(lines);
        Check.typeLine(y, table);
        y.find(last + 1, last + 1);
        String before = State.found(y) + State.table(y);
        CHECK.due("more" + name, y.more(0, last) == -3 ? 0 : 1, room ? 1 : 0);
        if (!room) {
            CHECK.due("refused more" + name, State.found(y) + State.table(y), before);
        }
    }

    // ---- promise 10

    /** A TABLE of some LINES, and others on THE PAGE; slashes stand between LINES. */
    private static TableFinder tableAndPage(String before, String behind) {
        TableFinder x = Check.foundIn(before.split("/"));
        x.clear();
        for (String line : behind.split("/")) {
            Check.typeLine(x, line);
        }
        return x;
    }

    private static void more(int due, String before, String behind) {
        TableFinder x = tableAndPage(before, behind);
        String head = Check.rowText(x, 0);
        CHECK.due("more of " + behind + " behind " + before, x.more(0, behind.split("/").length - 1), due);
        CHECK.due("the head is that of the table", Check.rowText(x, 0), head);
    }

    /** "if both have as many COLUMNS and the HEAD is the same, or the new one has none" */
    private static void moreGoesTogether() {
        more(2, "a", "b");
        more(2, "a  1", "b  2");
        more(2, "a  1", "long     2");
        more(-2, "a", "b  2");
        more(-2, "a  1", "b");
        more(-2, "a  1", "b  2  3");
        more(-2, "h/---/a", "b  2");
        more(2, "h  i/---/a  1", "h     i/---/b     2");
        more(2, "h  i/---/a  1", "b  2");
        more(2, "h  i/---/a  1", "---/b  2/---");
        more(3, "h  i/---/a  1", "h/   i/---/b  2/c  3");
        more(2, "   i/---/a  1", "   i/---/b  2");
        more(2, "a" + "  a".repeat(7), "b" + "  b".repeat(7));
        more(-2, "a" + "  a".repeat(7), "b" + "  b".repeat(6));
    }

    private static void moreOfUnlikeHeads() {
        more(-2, "a  1", "h  i/---/b  2");
        more(-2, "h  i/---/a  1", "h  j/---/b  2");
        more(-2, "h  i/---/a  1", "g  i/---/b  2");
        more(-2, "h  i/---/a  1", "h  ii/---/b  2");
        more(-2, "h  ii/---/a  1", "h  i/---/b  2");
        more(-2, "h  i/---/a  1", "h/---/b  2");
        more(-2, "h/---/a  1", "h  i/---/b  2");
        more(-2, "   h/---/a  1", "h/---/b  2");
        more(-2, "h  i/---/a  1", "   i/---/b  2");
    }

    /** "(and FOOT in place of that one's)" */
    private static void moreTakesTheFoot() {
        foot("b/2", "h  i/---/a  1/---/e  1", "---/b  2/---/b  2");
        foot("b/", "h  i/---/a  1/---/e  1", "---/b  2/---/b");
        foot("/1", "a  1", "---/b  2/---/   1");
        foot("/", "h  i/---/a  1/---/e  1", "b  2");
        foot("/", "a  1", "b  2");
    }

    private static void foot(String due, String before, String behind) {
        TableFinder x = tableAndPage(before, behind);
        CHECK.due("more of " + behind + " behind " + before, x.more(0, behind.split("/").length - 1), 2);
        CHECK.due("its foot", Check.rowText(x, 3), due);
        CHECK.due("its body", Check.rowText(x, 1) + " " + Check.rowText(x, 2), "a/1 b/2");
        CHECK.due("whether a foot", x.size(3), due.length() > 1 ? 1 : 0);
        CHECK.due("nothing behind it", x.cell(4, 0, -1), -1);
    }

    /** "40 ROWS of the BODY at most" and "FULL: of all together" */
    private static void fortyRows() {
        for (int rows = 15; rows <= 18; rows++) {
            TableFinder x = pageOfKinds("P".repeat(24));
            x.find(0, 23);
            CHECK.due("24 and " + rows, x.more(0, rows - 1), rows <= 16 ? 24 + rows : -3);
            CHECK.due("its rows", x.size(1), rows <= 16 ? 24 + rows : 24);
        }
        TableFinder y = pageOfKinds("P".repeat(23));
        Check.typeLine(y, "q");
        y.find(0, 19);
        CHECK.due("39", y.more(0, 18), 39);
        CHECK.due("39 and 2", y.more(22, 23), -3);
        CHECK.due("39 and 1", y.more(23, 23), 40);
        CHECK.due("40 and 1", y.more(23, 23), -3);
        CHECK.due("40 and 24", y.more(0, 23), -3);
        CHECK.due("row 39", Check.rowText(y, 39), "p");
        CHECK.due("row 40", Check.rowText(y, 40), "q");
        CHECK.due("the foot", Check.rowText(y, 41), "");
        CHECK.due("told of the latest", y.told(2), 1);
        CHECK.due("found anew", y.find(0, 1), 1);
        CHECK.due("its rows", y.size(1), 2);
    }

    /** "BAD as find(); NOT: there is no TABLE; FULL as find(); NOT: they do not go together; FULL: of all together." */
    private static void refusalsOfMoreInOrder() {
        String over = "y".repeat(30);
        TableFinder x = Check.pageOf("a", "", "b  " + over, "   " + over);
        CHECK.due("no block, no table", x.more(1, 1), -1);
        CHECK.due("no table, a cell too long", x.more(2, 3), -2);
        CHECK.due("find", x.find(0, 0), 1);
        CHECK.due("no block", x.more(1, 1), -1);
        CHECK.due("a cell too long, other columns", x.more(2, 3), -3);
        CHECK.due("other columns", x.more(2, 2), -2);
        TableFinder y = pageOfKinds("P".repeat(20) + "RP");
        Check.typeLine(y, "a  b");
        y.find(0, 19);
        y.more(0, 19);
        CHECK.due("40 rows", y.size(1), 40);
        CHECK.due("other columns and too many rows", y.more(22, 22), -2);
        CHECK.due("another head and too many rows", y.more(19, 21), -2);
        CHECK.due("too many rows", y.more(21, 21), -3);
        CHECK.due("no block and too many rows", y.more(20, 20), -1);
    }

    // ---- promises 11 and 12

    private static void toldOf(int plain, int rules, int joined, String... lines) {
        TableFinder x = Check.pageOf(lines);
        x.find(0, lines.length - 1);
        String name = " of " + String.join("/", lines);
        CHECK.due("plain" + name, x.told(2), plain);
        CHECK.due("rules" + name, x.told(3), rules);
        CHECK.due("joined" + name, x.told(4), joined);
    }

    /** "2 LINES that are PLAIN, 3 RULES, 4 LINES that were JOINED to a ROW of the BODY" */
    private static void toldOfFewAndMany() {
        toldOf(1, 0, 0, "a");
        toldOf(1, 1, 0, "a", "---");
        toldOf(2, 0, 0, "a  b", "c");
        toldOf(2, 0, 1, "a  b", "   c");
        toldOf(2, 0, 0, "   b", "a  c");
        toldOf(3, 0, 1, "   b", "   c", "a  d");
        toldOf(3, 1, 0, "a  b", "   c", "---", "d  e");
        toldOf(4, 2, 0, "---", "a  b", "---", "c  d", "   e", "   f");
        toldOf(3, 1, 2, "a  b", "   c", "   d", "---");
        toldOf(2, 3, 1, "---", "a  b", "---", "   c", "---");
    }

    /** "BAD; NOT: nothing was." */
    private static void toldRefused() {
        TableFinder x = Check.pageOf("a");
        for (int what = 0; what < 5; what++) {
            CHECK.due("told(" + what + ")", x.told(what), -2);
        }
        CHECK.due("bad before not", x.told(-1), -1);
        CHECK.due("bad before not", x.told(5), -1);
        x.find(1, 1);
        CHECK.due("a refused find finds nothing", x.told(4), -2);
        x.find(0, 0);
        for (int what : WRAPPED) {
            CHECK.due("told(" + what + ")", x.told(what), -1);
        }
        CHECK.due("told(-1)", x.told(-1), -1);
        CHECK.due("told(4)", x.told(4), 0);
        CHECK.due("told(5)", x.told(5), -1);
    }

    /** "Of what was FOUND latest (by more(), too)" */
    private static void toldOfMore() {
        TableFinder x = Check.pageOf("a  1", "", "---", "bbb      2", "         3", "===", "ttt      5");
        x.find(0, 0);
        CHECK.due("found", State.found(x), "\nfound 4 4 1 0 0 cuts 0 1 4");
        CHECK.due("more", x.more(2, 6), 2);
        CHECK.due("found by more", State.found(x), "\nfound 4 4 3 2 1 cuts 0 3 10");
        CHECK.due("more, refused", x.more(1, 1), -1);
        CHECK.due("not by one that was refused", State.found(x), "\nfound 4 4 3 2 1 cuts 0 3 10");
    }

    /** "CUT i (0 .. k) of what was FOUND latest. BAD." */
    private static void cutsOfEachNumber() {
        TableFinder none = new TableFinder();
        CHECK.due("nothing found", none.cutAt(0), -1);
        for (int k = 1; k <= 8; k++) {
            TableFinder x = Check.pageOf("a" + "  a".repeat(k - 1));
            CHECK.due("find", x.find(0, 0), k);
            CHECK.due("cut -1", x.cutAt(-1), -1);
            for (int i = 0; i <= k; i++) {
                CHECK.due("cut " + i + " of " + k, x.cutAt(i), i == 0 ? 0 : 3 * i - 2);
            }
            CHECK.due("cut " + (k + 1) + " of " + k, x.cutAt(k + 1), -1);
            for (int i : WRAPPED) {
                CHECK.due("cut " + i, x.cutAt(i), -1);
            }
        }
        TableFinder again = Check.pageOf("a  b  c", "a");
        again.find(0, 0);
        again.find(1, 1);
        CHECK.due("a cut of what was found before", again.cutAt(2), -1);
    }
}
