/** "Terms" 3 and promise 19 sentence by sentence: what is laid, and the most that has room. */
final class LayEdgesTest {
    private static final Check CHECK = new Check("LayEdgesTest");

    private LayEdgesTest() {
    }

    public static void main(String[] args) {
        ruleAsWideAsAll();
        partsThatAreLaid();
        widestCells();
        widestCellInEachRow();
        leftAndRight();
        linesToTwentyFour();
        bytesToSixty();
        notWithoutATable();
        onlyThePageIsLaid();
        laidAndReadAgain();
        CHECK.end();
    }

    /** Lays the TABLE of some LINES; the due ones stand with slashes between them. */
    private static void laid(String due, String... lines) {
        TableFinder x = Check.foundIn(lines);
        String[] wanted = due.split("/");
        String name = String.join("/", lines);
        CHECK.due("lay of " + name, x.lay(), wanted.length);
        CHECK.due("page of " + name, State.page(x), "page <" + String.join("> <", wanted) + ">");
    }

    /** "a RULE of - as wide as all (3 at least)" and "all LINES but RULES as wide as all" */
    private static void ruleAsWideAsAll() {
        String sixty = "x".repeat(60);
        laid("h/---/a", "h", "===", "a");
        laid("h /---/aa", "h", "===", "aa");
        laid("h  /---/aaa", "h", "===", "aaa");
        laid("h   /----/aaaa", "h", "===", "aaaa");
        laid("---/a/---/f", "===", "a", "===", "f");
        laid("h  i/----/a  1", "h  i", "==========", "a  1");
        laid("h" + " ".repeat(59) + "/" + "-".repeat(60) + "/" + sixty, "h", "---", sixty);
    }

    /** "its HEAD (if one of its CELLS is not empty) .. if the FOOT has a CELL that is not empty, a RULE (two, ..) and it" */
    private static void partsThatAreLaid() {
        laid("a", "a");
        laid("a", "---", "a", "---");
        laid("a/b", "a", "b", "---");
        laid("h/---/a", "h", "---", "a", "---");
        laid("---/a/---/f", "---", "a", "---", "f");
        laid("h/---/a/---/f", "h", "---", "---", "a", "---", "---", "f");
        laid("h/---/a/b/---/f", "h", "---", "a", "---", "b", "---", "f");
        laid("   h/----/a  1/----/   2", "   h", "---", "a  1", "---", "   2");
        laid("h   /----/a  1/----/t   ", "h", "---", "a  1", "---", "t");
    }

    /** "Each COLUMN is as wide as its widest CELL .. two blanks between COLUMNS" */
    private static void widestCells() {
        laid("a  b", "a    b");
        laid("a  b  c", "a|||b|  |c||");
        laid("a    b/ccc  d", "a     b", "ccc   d");
        laid("hhh  i/------/a    x/------/f    g", "hhh  i", "---", "a    x", "---", "f    g");
        laid("h    i/------/a    x/------/fff  g", "h    i", "---", "a    x", "---", "fff  g");
        laid("a  1 2/b  w  ", "a  1", "   2", "b  w");
    }

    /** The HEAD is row 0, the FOOT row 19; the widest CELL of one COLUMN stands in one of them, or in one between. */
    private static void widestCellInEachRow() {
        for (int row = 0; row <= 19; row++) {
            laidWithWidest(row, "kkkk", "vv");
            laidWithWidest(row, "k", "vvvv");
            laidWithWidest(row, "kkk", "2222");
        }
    }

    private static void laidWithWidest(int widest, String key, String text) {
        String[] lines = new String[22];
        StringBuilder due = new StringBuilder();
        boolean ofNumbers = text.charAt(0) == '2';
        String rule = "-".repeat(key.length() + 2 + text.length());
        for (int row = 0; row <= 19; row++) {
            String left = row == widest ? key : "k";
            String right = row == widest ? text : text.substring(0, 1);
            String keyFill = " ".repeat(key.length() - left.length());
            String textFill = " ".repeat(text.length() - right.length());
            lines[row == 0 ? 0 : row == 19 ? 21 : row + 1] = left + "     ".substring(left.length()) + "  " + right;
            due.append(row == 19 ? rule + "/" : "").append(left).append(keyFill).append("  ");
            due.append(ofNumbers ? textFill + right : right + textFill).append(row == 0 ? "/" + rule + "/" : row < 19 ? "/" : "");
        }
        lines[1] = "---";
        lines[20] = "---";
        TableFinder x = Check.foundIn(lines);
        CHECK.due("lay", x.lay(), lines.length);
        String[] wanted = due.toString().split("/");
        for (int line = 0; line < lines.length; line++) {
            StringBuilder got = new StringBuilder();
            for (int i = 0; i < rule.length(); i++) {
                got.append((char) x.at(line, i));
            }
            CHECK.due("widest in row " + widest + ", line " + line, got.toString(), wanted[line]);
            CHECK.due("its length", x.set(line, rule.length(), 'x'), -1);
        }
    }

    /** "of WORDS CELLS begin at its left end, of NUMBERS (HEAD, FOOT, too) they end at its right end" */
    private static void leftAndRight() {
        laid("name  kg/--------/oak    3/elm   12/--------/all   15",
            "name  kg", "---", "oak   3", "elm   12", "---", "all   15");
        laid("name  kg/--------/oak   3 /elm   x /--------/all   15",
            "name  kg", "---", "oak   3", "elm   x", "---", "all   15");
        laid("n  sum/------/a    7", "n  sum", "---", "a  7");
        laid("n  sum/------/a  w  ", "n  sum", "---", "a    w");
        laid("-------/a     7/-------/t  none", "---", "a  7", "---", "t  none");
        laid("-------/a  1000/-------/t     x", "---", "a  1000", "---", "t  x");
        laid("a  7/b   ", "a  7", "b");
        laid(" 1  a/22  b", "1   a", "22  b");
        laid("-1.5/   2", "-1.5", "2");
        laid("h  2 /-----/a    /-----/t  12", "h  2", "---", "a", "---", "t  12");
    }

    /** A TABLE of more than 10 ROWS, which come in two BLOCKS. */
    private static TableFinder tableOf(boolean head, int rows, boolean foot) {
        TableFinder x = Check.pageOf("h", "---");
        for (int row = 0; row < 10; row++) {
            Check.typeLine(x, "a");
        }
        x.find(head ? 0 : 2, 11);
        x.clear();
        Check.typeLine(x, "---");
        for (int row = 10; row < rows; row++) {
            Check.typeLine(x, "b");
        }
        Check.typeLine(x, "---");
        Check.typeLine(x, "f");
        x.more(0, rows - 10 + (foot ? 2 : 0));
        return x;
    }

    /** "FULL: more than 24" */
    private static void linesToTwentyFour() {
        for (int rows = 18; rows <= 26; rows++) {
            linesOf(false, rows, false, rows);
            linesOf(true, rows, false, rows + 2);
            linesOf(false, rows, true, rows + 3);
            linesOf(true, rows, true, rows + 4);
        }
    }

    private static void linesOf(boolean head, int rows, boolean foot, int lines) {
        String name = rows + " rows, head " + head + ", foot " + foot;
        TableFinder x = tableOf(head, rows, foot);
        CHECK.due(name + ", its rows", x.size(1), rows);
        CHECK.due(name, x.lay(), lines <= 24 ? lines : -3);
        if (lines <= 24) {
            CHECK.due(name + ", the last line", x.at(lines - 1, 0), foot ? 'f' : 'b');
            CHECK.due(name + ", behind it", x.kind(lines), -1);
        } else {
            String page = State.page(tableOf(head, rows, foot));
            CHECK.due(name + ", the page stays", State.page(x), page);
        }
    }

    /** "FULL: .. 60 bytes wide": the first COLUMN is 30 wide by one LINE, the second by another one. */
    private static void bytesToSixty() {
        String left = "a".repeat(30);
        for (int right = 27; right <= 30; right++) {
            int width = 30 + 2 + right;
            String gap = "c" + " ".repeat(29) + "b".repeat(right);
            bytesOf(width, left, gap);
            bytesOf(width, left, "---", gap);
            bytesOf(width, gap, "---", left);
            bytesOf(width, "---", gap, "---", left);
            bytesOf(width, "---", left, "---", gap);
        }
        bytesOf(60, "x".repeat(60));
        bytesOf(59, "x".repeat(59));
        for (int more = 53; more <= 56; more++) {
            bytesOf(2 + 2 + 2 + more, "aa  b", "    " + "b".repeat(more));
        }
        bytesOf(22, "a" + "  a".repeat(7));
        bytesOf(60, "a" + "  a".repeat(6) + "  " + "b".repeat(39));
    }

    private static void bytesOf(int width, String... lines) {
        TableFinder x = Check.foundIn(lines);
        boolean room = width <= 60;
        String name = "width " + width + " of " + String.join("/", lines);
        CHECK.due(name, x.lay() == -3 ? 0 : 1, room ? 1 : 0);
        if (room) {
            CHECK.due(name + ": the last byte", x.set(0, width - 1, 'x') == -1 ? 0 : 1, 1);
            CHECK.due(name + ": behind it", x.set(0, width, 'x'), -1);
        } else {
            CHECK.due(name + ": the page stays", State.page(x), "page <" + String.join("> <", lines) + ">");
        }
    }

    /** "NOT: there is no TABLE" */
    private static void notWithoutATable() {
        TableFinder x = new TableFinder();
        CHECK.due("lay", x.lay(), -2);
        Check.typeLine(x, "a  1");
        x.type('t', 1);
        CHECK.due("lay of a page", x.lay(), -2);
        x.find(1, 1);
        CHECK.due("lay behind a refused find", x.lay(), -2);
        CHECK.due("all stays", State.of(x), "page <a  1>\nfound -2 -2 -2 -2 -2 cuts \ntable 0 0 0 0\ntape <t>");
    }

    /** "THE PAGE becomes these LINES": all LINES that it had are gone, and nothing else is. */
    private static void onlyThePageIsLaid() {
        TableFinder x = Check.pageOf("x".repeat(60), "a    1", "x".repeat(60), "y");
        x.find(1, 1);
        x.type('t', 1);
        String due = State.found(x) + State.table(x);
        CHECK.due("lay", x.lay(), 1);
        CHECK.due("page", State.page(x), "page <a  1>");
        CHECK.due("behind its end", x.at(0, 4), 32);
        CHECK.due("line 1", x.at(1, 0), -1);
        CHECK.due("found and table", State.found(x) + State.table(x), due);
        CHECK.due("the tape becomes line 1", x.line(), 1);
        CHECK.due("page", State.page(x), "page <a  1> <t>");
        TableFinder cleared = Check.foundIn("h", "---", "a");
        cleared.clear();
        CHECK.due("lay on no page", cleared.lay(), 3);
        CHECK.due("page", State.page(cleared), "page <h> <---> <a>");
    }

    /** A TABLE that was SET is read as it was. */
    private static void laidAndReadAgain() {
        TableFinder x = Check.foundIn("| name | n  |", "|------|----|", "| oak  |  3 |", "| elm  | 12 |", "|======|====|", "| sum  | 15 |");
        String due = State.table(x);
        CHECK.due("lay", x.lay(), 6);
        String page = State.page(x);
        CHECK.due("page", page, "page <name   n> <--------> <oak    3> <elm   12> <--------> <sum   15>");
        CHECK.due("find", x.find(0, 5), 2);
        CHECK.due("table", State.table(x), due);
        CHECK.due("lay again", x.lay(), 6);
        CHECK.due("page again", State.page(x), page);
    }
}
