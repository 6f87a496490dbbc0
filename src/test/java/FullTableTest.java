import java.util.ArrayList;
import java.util.List;
import java.util.function.Supplier;

/**
 * "A TABLE has 8 COLUMNS, 40 ROWS of the BODY at most, each CELL 60 bytes": TABLES as full as they can be,
 * byte by byte, so that no CELL takes of its neighbours; and what was read before, that leaves no rest.
 */
final class FullTableTest {
    private static final Check CHECK = new Check("FullTableTest");
    private static final String HEAD = "A  B  C  D  E  F  G  H";

    private FullTableTest() {
    }

    public static void main(String[] args) {
        fortyRowsOfEight(false, false);
        fortyRowsOfEight(true, false);
        fortyRowsOfEight(false, true);
        fortyRowsOfEight(true, true);
        sameHeadOfEight();
        unlikeHeadsOfEight();
        emptyCellsAtTheEnds();
        fullCellsOfEight();
        fullCellsOfTheFoot();
        fullCellOfOneColumn();
        laidWithEight();
        widestRowOfBlanks();
        oneByteBesideFullLines();
        costsBehindMoreLines();
        partsBehindLaterLines();
        tablesBehindFullerOnes();
        CHECK.end();
    }

    // ---- 40 ROWS of 8 COLUMNS

    private static String rowOf(int number) {
        StringBuilder text = new StringBuilder();
        for (int column = 0; column < 8; column++) {
            text.append(column == 0 ? "" : "  ").append((char) ('!' + (8 * number + column) % 90));
        }
        return text.toString().replace('/', '~');
    }

    private static String cellsOf(String line) {
        return line.trim().replaceAll(" +", "/");
    }

    /** All CELLS, each told by an object of its own: one object has not calls enough for all of them. */
    private static void rows(String name, Supplier<TableFinder> made, List<String> due) {
        for (int row = 0; row < due.size(); row++) {
            String[] cells = due.get(row).split("/", -1);
            for (int column = 0; column < cells.length; column++) {
                CHECK.due(name + ", row " + row + ", column " + column, Check.cellText(made.get(), row, column), cells[column]);
            }
            CHECK.due(name + ", no column behind in row " + row, made.get().cell(row, cells.length, -1), -1);
        }
        CHECK.due(name + ", no row behind", made.get().cell(due.size(), 0, -1), -1);
    }

    private static TableFinder typed(List<String> lines) {
        return Check.pageOf(lines.toArray(new String[0]));
    }

    private static void retype(TableFinder x, List<String> lines) {
        x.clear();
        for (String line : lines) {
            Check.typeLine(x, line);
        }
    }

    /** Ten ROWS a BLOCK, three calls of more(); each ROW has bytes of its own. */
    private static void fortyRowsOfEight(boolean head, boolean foot) {
        String name = "head " + head + ", foot " + foot;
        for (int blocks = 1; blocks <= 4; blocks++) {
            int count = blocks;
            List<String> due = new ArrayList<>();
            due.add(head ? cellsOf(HEAD) : "///////");
            for (int row = 0; row < 10 * blocks; row++) {
                due.add(cellsOf(rowOf(row)));
            }
            due.add(foot ? cellsOf(rowOf(49 + blocks)) : "///////");
            rows(name + ", blocks " + blocks, () -> tableOf(count, head, foot), due);
            CHECK.due(name + ", blocks " + blocks + ": head", tableOf(blocks, head, foot).size(2), head ? 1 : 0);
            CHECK.due(name + ", blocks " + blocks + ": foot", tableOf(blocks, head, foot).size(3), foot ? 1 : 0);
        }
        TableFinder x = tableOf(4, head, foot);
        retype(x, List.of("---", rowOf(0)));
        CHECK.due(name + ": one row more", x.more(0, 1), -3);
        CHECK.due(name + ": rows behind that", x.size(1), 40);
        CHECK.due(name + ": foot behind that", x.size(3), foot ? 1 : 0);
    }

    private static TableFinder tableOf(int blocks, boolean head, boolean foot) {
        TableFinder x = new TableFinder();
        for (int block = 0; block < blocks; block++) {
            List<String> lines = blockOf(head, block, foot);
            retype(x, lines);
            int got = block == 0 ? x.find(0, lines.size() - 1) : x.more(0, lines.size() - 1);
            CHECK.due("block " + block, got, block == 0 ? 8 : 10 * block + 10);
        }
        return x;
    }

    private static List<String> blockOf(boolean head, int block, boolean foot) {
        List<String> lines = new ArrayList<>();
        if (head) {
            lines.add(HEAD);
        }
        lines.add("---");
        for (int row = 0; row < 10; row++) {
            lines.add(rowOf(10 * block + row));
        }
        if (foot) {
            lines.add("---");
            lines.add(rowOf(50 + block));
        }
        return lines;
    }

    // ---- HEADS of 8 COLUMNS

    /** What goes together is told by the HEAD alone, whatever stands in the ROW behind it. */
    private static void sameHeadOfEight() {
        String row = "bb" + "  b".repeat(7);
        rows("the same head", () -> {
            TableFinder x = Check.foundIn(HEAD, "---", rowOf(0));
            retype(x, List.of("A " + HEAD.substring(1), "---", row));
            CHECK.due("more", x.more(0, 2), 2);
            return x;
        }, List.of(cellsOf(HEAD), cellsOf(rowOf(0)), cellsOf(row), "///////"));
    }

    private static void unlikeHeadsOfEight() {
        for (int column = 0; column < 8; column++) {
            for (char sign : new char[] {'x', ' '}) {
                String head = HEAD.substring(0, 3 * column) + sign + HEAD.substring(3 * column + 1);
                TableFinder x = Check.foundIn(HEAD, "---", rowOf(0));
                retype(x, List.of(head, "---", rowOf(1)));
                CHECK.due("more with " + sign + " in column " + column, x.more(0, 2), -2);
                CHECK.due("head", Check.rowText(x, 0), cellsOf(HEAD));
                CHECK.due("row 1", Check.rowText(x, 1), cellsOf(rowOf(0)));
                CHECK.due("foot", Check.rowText(x, 2), "///////");
            }
        }
    }

    /** The last CELL of a ROW and the first one of the next are none of each other's. */
    private static void emptyCellsAtTheEnds() {
        String left = "l" + "  m".repeat(6);
        String right = "   " + "m  ".repeat(6) + "r";
        Supplier<TableFinder> found = () -> Check.foundIn(left, "---", right, left, rowOf(3), "---", left);
        String bodyLeft = cellsOf(left) + "/";
        String bodyRight = "/" + cellsOf(right);
        rows("ends", found, List.of(bodyLeft, bodyRight, bodyLeft, cellsOf(rowOf(3)), bodyLeft));
        Supplier<TableFinder> more = () -> {
            TableFinder x = found.get();
            retype(x, List.of("---", rowOf(4), left, "---", right));
            CHECK.due("more", x.more(0, 4), 5);
            return x;
        };
        rows("ends behind more", more,
            List.of(bodyLeft, bodyRight, bodyLeft, cellsOf(rowOf(3)), cellsOf(rowOf(4)), bodyLeft, bodyRight));
    }

    // ---- CELLS of 60 bytes

    /** Eight LINES of six bytes a CELL and one of four: 60 bytes, with the blanks between them. */
    private static List<String> linesOfSixty(String key, char sign) {
        List<String> lines = new ArrayList<>();
        for (int line = 0; line < 9; line++) {
            StringBuilder text = new StringBuilder(line == 0 ? key : " ");
            for (int column = 1; column < 8; column++) {
                String bytes = String.valueOf((char) (sign + column)).repeat(line < 8 ? 6 : 4);
                text.append("  ").append(bytes).append(" ".repeat(6 - bytes.length()));
            }
            lines.add(text.toString());
        }
        return lines;
    }

    private static String rowOfSixty(String key, char sign) {
        StringBuilder text = new StringBuilder(key);
        for (int column = 1; column < 8; column++) {
            String bytes = String.valueOf((char) (sign + column));
            text.append('/').append((bytes.repeat(6) + " ").repeat(8)).append(bytes.repeat(4));
        }
        return text.toString();
    }

    private static TableFinder foundOfSixty() {
        List<String> lines = linesOfSixty("a", 'a');
        lines.addAll(linesOfSixty("b", 'A'));
        TableFinder x = typed(lines);
        CHECK.due("find", x.find(0, 17), 8);
        return x;
    }

    private static void fullCellsOfEight() {
        String one = rowOfSixty("a", 'a');
        String two = rowOfSixty("b", 'A');
        CHECK.due("joined", foundOfSixty().told(4), 16);
        CHECK.due("length", foundOfSixty().cell(2, 7, -1), 60);
        rows("full cells", FullTableTest::foundOfSixty, List.of("///////", one, two, "///////"));
        Supplier<TableFinder> more = () -> {
            TableFinder x = foundOfSixty();
            CHECK.due("more", x.more(9, 17), 3);
            CHECK.due("more", x.more(0, 17), 5);
            return x;
        };
        rows("full cells behind more", more, List.of("///////", one, two, two, one, two, "///////"));
        TableFinder x = more.get();
        retype(x, linesOfSixty("c", 'a'));
        CHECK.due("set", x.set(8, 55, 'h'), ' ');
        CHECK.due("one byte more", x.find(0, 8), -3);
        CHECK.due("more of one byte more", x.more(0, 8), -3);
        CHECK.due("lay", x.lay(), -3);
        CHECK.due("rows", x.size(1), 5);
    }

    /** Two COLUMNS of FEET, 60 bytes each, below HEADS of as many. */
    private static void fullCellsOfTheFoot() {
        List<String> three = List.of("p".repeat(30) + "  " + "q".repeat(28), "r".repeat(29) + "   " + "s".repeat(28),
            " ".repeat(32) + "tt");
        List<String> lines = new ArrayList<>(three);
        lines.addAll(List.of("---", "a" + " ".repeat(31) + "b", "---"));
        lines.addAll(three);
        String due = "p".repeat(30) + " " + "r".repeat(29) + "/" + "q".repeat(28) + " " + "s".repeat(28) + " tt";
        Supplier<TableFinder> found = () -> {
            TableFinder x = typed(lines);
            CHECK.due("find", x.find(0, 8), 2);
            return x;
        };
        rows("full head and foot", found, List.of(due, "a/b", due));
        Supplier<TableFinder> more = () -> {
            TableFinder x = found.get();
            CHECK.due("more with the head", x.more(0, 8), 2);
            CHECK.due("more without the head", x.more(3, 8), 3);
            return x;
        };
        rows("full foot behind more", more, List.of(due, "a/b", "a/b", "a/b", due));
        TableFinder x = more.get();
        CHECK.due("set", x.set(1, 29, 'r'), ' ');
        CHECK.due("a head of one byte more", x.more(0, 8), -3);
    }

    private static void fullCellOfOneColumn() {
        List<String> due = new ArrayList<>(List.of("", "x".repeat(60)));
        for (int row = 2; row <= 40; row++) {
            due.add((row % 2 == 0 ? "x" : "y").repeat(60));
        }
        due.add("");
        rows("forty of sixty", () -> {
            TableFinder x = Check.pageOf("x".repeat(60), "y".repeat(60));
            x.find(0, 0);
            for (int rows = 2; rows <= 40; rows++) {
                CHECK.due("more", x.more(rows % 2, rows % 2), rows);
            }
            return x;
        }, due);
    }

    /** SET with 8 COLUMNS, 24 LINES and 60 bytes: as full as THE PAGE. A LINE an object: it tells it by 121 calls. */
    private static void laidWithEight() {
        String head = HEAD.substring(0, 21) + "w".repeat(39);
        String blanks = " ".repeat(38);
        for (int line = 0; line < 24; line++) {
            TableFinder x = Check.foundIn(head, "---", rowOf(0), "---", rowOf(1));
            for (int row = 2; row <= 20; row++) {
                CHECK.due("more", x.more(1, 4), row);
            }
            CHECK.due("lay", x.lay(), 24);
            boolean rule = line == 1 || line == 22;
            String due = line == 0 ? head : rule ? "-".repeat(60) : rowOf(line < 22 ? 0 : 1) + blanks;
            CHECK.due("line " + line, Check.lineText(x, line), due);
            CHECK.due("line 24", x.kind(24), -1);
        }
    }

    // ---- no rest of what was read before

    /** One row of blanks as wide as a LINE leaves room for, and each CUT in it. */
    private static void widestRowOfBlanks() {
        for (int width = 4; width <= 60; width++) {
            TableFinder x = Check.pageOf("a" + " ".repeat(width - 2) + "b");
            CHECK.due("one column", x.cost(0, 0, 0, 0), 2 + 3);
            for (int cut = 1; cut < width; cut++) {
                int low = cut < 32 ? 1 << cut : 0;
                int high = cut < 32 ? 0 : 1 << cut - 32;
                CHECK.due("width " + width + ", cut " + cut, x.cost(0, 0, low, high), 4);
            }
            CHECK.due("find", x.find(0, 0), 2);
            CHECK.due("cuts", Check.cutsText(x), "0 1 " + width);
            CHECK.due("best", x.told(0), 4);
            CHECK.due("next", x.told(1), 4);
        }
    }

    /** What a LINE costs is told by its own bytes alone, be the LINES beside it as full as they can be. */
    private static void oneByteBesideFullLines() {
        String full = "x".repeat(60);
        for (int place = 0; place < 60; place++) {
            String one = " ".repeat(place) + "a";
            for (String[] lines : new String[][] {{one, full}, {full, one}, {full, one, full}}) {
                TableFinder x = Check.pageOf(lines);
                int last = lines.length - 1;
                String name = "a at " + place + " of " + String.join("/", lines);
                CHECK.due(name, x.cost(0, last, 0, 0), 2);
                for (int cut = 1; cut < 60; cut++) {
                    int low = cut < 32 ? 1 << cut : 0;
                    int high = cut < 32 ? 0 : 1 << cut - 32;
                    CHECK.due(name + ", cut " + cut, x.cost(0, last, low, high), 4 + (last == 2 ? 12 : 6));
                }
                CHECK.due(name + ": find", x.find(0, last), 1);
                CHECK.due(name + ": best", x.told(0), 2);
                CHECK.due(name + ": next", x.told(1), 4 + (last == 2 ? 12 : 6));
            }
        }
    }

    /** A BLOCK of few LINES, read behind one of many: LINES that are not of it cost nothing. */
    private static void costsBehindMoreLines() {
        for (int last = 1; last < 24; last++) {
            TableFinder x = Check.pageOf("wxyz");
            for (int line = 1; line <= last; line++) {
                Check.typeLine(x, "a  b");
            }
            CHECK.due("cost of all", x.cost(0, last, 0, 0), 2 + 3 * last);
            CHECK.due("cost of line 0", x.cost(0, 0, 0, 0), 2);
            CHECK.due("cost of line 0, cut", x.cost(0, 0, 2, 0), 4 + 6);
            CHECK.due("cost of lines 0 and 1", x.cost(0, 1, 0, 0), 5);
            CHECK.due("find of all", x.find(0, last), last < 3 ? 1 : 2);
            CHECK.due("find of line 0", x.find(0, 0), 1);
            CHECK.due("found", State.found(x), "\nfound 2 10 1 0 0 cuts 0 4");
            CHECK.due("more of line 0", x.more(0, 0), 2);
            CHECK.due("found by more", State.found(x), "\nfound 2 10 1 0 0 cuts 0 4");
        }
    }

    /** PLAIN LINES of a BLOCK that was read before are not behind, nor between, the RULES of this one. */
    private static void partsBehindLaterLines() {
        String[] lines = {"a", "---", "", "b", "---", "---", "c", "", "d", "e", "f", "---", "g", "---", "h", "i"};
        for (int ahead = 0; ahead < 3; ahead++) {
            parts("a body ahead of a rule", ahead, 0, 1, ":a:", lines);
            parts("a head, and a body behind two rules", ahead, 3, 6, "b:c:", lines);
            parts("a body behind two rules", ahead, 4, 6, ":c:", lines);
            parts("a body ahead of two rules", ahead, 3, 5, ":b:", lines);
            parts("all parts", ahead, 8, 15, "d e f:g:h i", lines);
        }
    }

    /** A BLOCK read on a new object, behind a find() of all parts, or behind a cost() of them. */
    private static void parts(String name, int ahead, int a, int b, String due, String... lines) {
        TableFinder x = Check.pageOf(lines);
        if (ahead == 1) {
            CHECK.due("find of all parts", x.find(8, 15), 1);
        } else if (ahead == 2) {
            CHECK.due("cost of all parts", x.cost(8, 15, 0, 0), 2);
        }
        CHECK.due("find of " + name, x.find(a, b), 1);
        CHECK.due(name, Check.rowText(x, 0) + ":" + Check.rowText(x, 1) + ":" + Check.rowText(x, 2), due);
        CHECK.due(name + ", rows", x.size(1), 1);
    }

    /** A TABLE of one CELL behind one with all of them full, by find() and by a find() that was refused. */
    private static void tablesBehindFullerOnes() {
        List<String> lines = linesOfSixty("a", 'a');
        lines.addAll(List.of("", "7", "---", "8  9"));
        TableFinder x = typed(lines);
        for (int time = 0; time < 3; time++) {
            CHECK.due("find", x.find(0, 8), 8);
            CHECK.due("find of one", x.find(10, 10), 1);
            CHECK.due("one", State.found(x) + State.table(x),
                "\nfound 2 1000000 1 0 0 cuts 0 1\ntable 1 1 0 0 <> <7> <> 7000 0");
            CHECK.due("refused", x.more(0, 8), -2);
            CHECK.due("find of two", x.find(10, 12), 2);
            CHECK.due("two", State.found(x) + State.table(x),
                "\nfound 4 4 2 1 0 cuts 0 1 4\ntable 2 1 1 0 <7/> <8/9> </> 8000 0 9000 0");
        }
    }
}
