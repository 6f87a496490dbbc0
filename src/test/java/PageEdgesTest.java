/** "Terms" 1 and promises 1 to 7 sentence by sentence: each edge, and the next number on either side of it. */
final class PageEdgesTest {
    private static final Check CHECK = new Check("PageEdgesTest");
    private static final String SIXTY = "0123456789".repeat(6);
    private static final int[] WRAPPED = {Integer.MIN_VALUE, Integer.MIN_VALUE + 1, -256, -1, Integer.MAX_VALUE, 1 << 30};

    private PageEdgesTest() {
    }

    public static void main(String[] args) {
        newObject();
        bytesOfAWord();
        bytesAtEachPlaceOfAWord();
        numberOfBytes();
        highestFirst();
        tapeOfSixty();
        lineTakesTheTape();
        linesToTwentyThree();
        lineLengths();
        clearTellsHowMany();
        clearLeavesNoByte();
        linesThatAreGone();
        atPlaces();
        atLines();
        emptyLines();
        rulesOfThree();
        bytesOfRules();
        bytesThatAreBlank();
        kindOfLines();
        setBytes();
        setPlaces();
        setChangesOneByte();
        setMakesAnotherKind();
        CHECK.end();
    }

    // ---- promise 1

    /** "An empty PAGE, no TABLE; THE TAPE is empty." */
    private static void newObject() {
        CHECK.due("a new object", State.of(new TableFinder()), "page\nfound -2 -2 -2 -2 -2 cuts \ntable 0 0 0 0\ntape <>");
        TableFinder x = Check.pageOf("a", "b");
        x.find(0, 1);
        x.type('c', 1);
        CHECK.due("a new object behind a used one", State.of(new TableFinder()),
            "page\nfound -2 -2 -2 -2 -2 cuts \ntable 0 0 0 0\ntape <>");
    }

    // ---- promise 2

    /** "BAD: .. a byte not 32 .. 126" */
    private static void bytesOfAWord() {
        int typed = 0;
        TableFinder x = new TableFinder();
        for (int b = 0; b < 256; b++) {
            boolean good = b >= 32 && b <= 126;
            if (good && typed == 60) {
                x.line();
                typed = 0;
            }
            typed += good ? 1 : 0;
            CHECK.due("type of byte " + b, x.type(b, 1), good ? typed : -1);
        }
    }

    private static void bytesAtEachPlaceOfAWord() {
        long ats = 0x4040404040404040L;
        for (int k = 0; k < 8; k++) {
            for (int b : new int[] {0, 31, 127, 128, 160, 255}) {
                TableFinder x = new TableFinder();
                long w = ats & ~(255L << 8 * k) | (long) b << 8 * k;
                CHECK.due("byte " + b + " is byte " + k, x.type(w, 8), -1);
                CHECK.due("byte " + b + " just within " + (k + 1), x.type(w, k + 1), -1);
                CHECK.due("byte " + b + " just above " + k, x.type(w, k), k == 0 ? -1 : k);
            }
        }
        TableFinder y = new TableFinder();
        CHECK.due("a word of ones", y.type(-1L, 8), -1);
        CHECK.due("the least word", y.type(Long.MIN_VALUE, 8), -1);
        CHECK.due("the least word with a good byte", y.type(Long.MIN_VALUE | 'a', 1), 1);
        CHECK.due("the greatest bytes", y.type(0x7E7E7E7E7E7E7E7EL, 8), 9);
        CHECK.due("the least bytes", y.type(0x2020202020202020L, 8), 17);
    }

    /** "The n lowest bytes (1 .. 8) .. BAD: n" */
    private static void numberOfBytes() {
        long w = Check.word("abcdefgh");
        for (int n = 1; n <= 8; n++) {
            CHECK.due("n " + n, new TableFinder().type(w, n), n);
        }
        TableFinder x = new TableFinder();
        CHECK.due("n 0", x.type(w, 0), -1);
        CHECK.due("n 9", x.type(w, 9), -1);
        for (int n : WRAPPED) {
            CHECK.due("n " + n, x.type(w, n), -1);
        }
        CHECK.due("n 1 as a byte of an int", x.type(w, 257), -1);
        CHECK.due("nothing was typed", x.type(w, 1), 1);
    }

    /** "of these the highest first, come behind THE TAPE" */
    private static void highestFirst() {
        TableFinder x = new TableFinder();
        x.type(Check.word("abcdefgh"), 3);
        x.type(Check.word("ABCDEFGH"), 8);
        x.type(Check.word("12345678"), 1);
        x.line();
        CHECK.due("three, eight, one", Check.lineText(x, 0), "fghABCDEFGH8");
    }

    /** "how many it has .. FULL: 60." */
    private static void tapeOfSixty() {
        for (int had = 52; had <= 60; had++) {
            for (int n = 1; n <= 8; n++) {
                TableFinder x = new TableFinder();
                Check.typeText(x, SIXTY.substring(0, had));
                int due = had + n <= 60 ? had + n : -3;
                CHECK.due(n + " behind " + had, x.type(Check.word("ABCDEFGH"), n), due);
                x.line();
                String text = SIXTY.substring(0, had) + (due > 0 ? "ABCDEFGH".substring(8 - n) : "");
                CHECK.due("the line of " + n + " behind " + had, Check.lineText(x, 0), text);
            }
        }
    }

    // ---- promise 3

    /** "THE TAPE, which is empty then, is one more LINE: its number." */
    private static void lineTakesTheTape() {
        TableFinder x = new TableFinder();
        CHECK.due("a line of nothing", x.line(), 0);
        Check.typeText(x, SIXTY);
        CHECK.due("a line of sixty", x.line(), 1);
        CHECK.due("the tape is empty then", x.line(), 2);
        CHECK.due("and takes sixty again", Check.typeText(x, SIXTY), 60);
        CHECK.due("page", State.page(x), "page <> <" + SIXTY + "> <>");
    }

    /** "THE PAGE has LINES 0 .. 23, as they come" and "FULL: 24." */
    private static void linesToTwentyThree() {
        TableFinder x = new TableFinder();
        StringBuilder page = new StringBuilder("page");
        for (int i = 0; i < 24; i++) {
            String text = String.valueOf((char) ('a' + i));
            CHECK.due("line " + i, Check.typeLine(x, text), i);
            page.append(" <").append(text).append('>');
        }
        CHECK.due("the tape for one more", x.type(Check.word("more"), 4), 4);
        CHECK.due("one more", x.line(), -3);
        CHECK.due("once again", x.line(), -3);
        CHECK.due("the tape stays", x.type('!', 1), 5);
        CHECK.due("the page stays", State.page(x), page.toString());
        CHECK.due("clear", x.clear(), 24);
        CHECK.due("line", x.line(), 0);
        CHECK.due("the tape that had no room", State.page(x), "page <more!>");
    }

    /** "each 0 to 60 bytes": lengths are kept line by line. */
    private static void lineLengths() {
        for (int length : new int[] {0, 1, 2, 59, 60}) {
            TableFinder x = Check.pageOf("before", SIXTY.substring(0, length), "behind");
            CHECK.due("line of " + length, Check.lineText(x, 1), SIXTY.substring(0, length));
            CHECK.due("the one before", Check.lineText(x, 0), "before");
            CHECK.due("the one behind", Check.lineText(x, 2), "behind");
        }
    }

    // ---- promise 4

    /** "THE PAGE has no LINES: how many it had." */
    private static void clearTellsHowMany() {
        for (int count = 0; count <= 24; count++) {
            TableFinder x = new TableFinder();
            for (int i = 0; i < count; i++) {
                x.line();
            }
            CHECK.due("clear of " + count, x.clear(), count);
            CHECK.due("clear behind it", x.clear(), 0);
            CHECK.due("kind behind it", x.kind(0), -1);
            CHECK.due("line behind it", x.line(), 0);
        }
    }

    private static void clearLeavesNoByte() {
        TableFinder x = Check.pageOf(SIXTY, SIXTY);
        x.clear();
        Check.typeLine(x, "ab");
        x.line();
        CHECK.due("its end", x.at(0, 2), 32);
        CHECK.due("its last place", x.at(0, 59), 32);
        CHECK.due("an empty line", x.at(1, 0), 32);
        CHECK.due("page", State.page(x), "page <ab> <>");
        CHECK.due("the old bytes are no ink", x.cost(0, 0, 2, 0), 2 + 2 + 6);
        CHECK.due("w is that of the new line", x.cost(0, 0, 4, 0), -1);
    }

    /** LINES that clear() or lay() took away are none, whatever stood there. */
    private static void linesThatAreGone() {
        TableFinder cleared = Check.pageOf("a", "b", "c");
        cleared.clear();
        Check.typeLine(cleared, "d");
        goneBehindLineZero(cleared);
        TableFinder laid = Check.pageOf("a", "b", "c");
        laid.find(1, 1);
        CHECK.due("lay", laid.lay(), 1);
        goneBehindLineZero(laid);
    }

    private static void goneBehindLineZero(TableFinder x) {
        for (int line = 1; line < 4; line++) {
            CHECK.due("kind of line " + line, x.kind(line), -1);
            CHECK.due("at of line " + line, x.at(line, 0), -1);
            CHECK.due("set of line " + line, x.set(line, 0, 'z'), -1);
            CHECK.due("cost to line " + line, x.cost(0, line, 0, 0), -1);
            CHECK.due("find to line " + line, x.find(0, line), -1);
            CHECK.due("more to line " + line, x.more(0, line), -1);
            CHECK.due("find of line " + line, x.find(line, line), -1);
        }
        CHECK.due("find of line 0", x.find(0, 0), 1);
        CHECK.due("clear", x.clear(), 1);
    }

    // ---- promise 5

    /** "Byte i of a LINE (32 beyond its end, to 59). BAD." */
    private static void atPlaces() {
        TableFinder x = Check.pageOf("", "ab", SIXTY);
        for (int i = 0; i < 60; i++) {
            CHECK.due("at(0, " + i + ")", x.at(0, i), 32);
            CHECK.due("at(1, " + i + ")", x.at(1, i), i == 0 ? 'a' : i == 1 ? 'b' : 32);
            CHECK.due("at(2, " + i + ")", x.at(2, i), '0' + i % 10);
        }
        for (int line = 0; line < 3; line++) {
            CHECK.due("place -1", x.at(line, -1), -1);
            CHECK.due("place 60", x.at(line, 60), -1);
            for (int i : WRAPPED) {
                CHECK.due("place " + i, x.at(line, i), -1);
            }
        }
    }

    private static void atLines() {
        TableFinder x = Check.pageOf("a", "b");
        CHECK.due("line -1", x.at(-1, 0), -1);
        CHECK.due("line 1", x.at(1, 0), 'b');
        CHECK.due("line 2", x.at(2, 0), -1);
        CHECK.due("line 24", x.at(24, 0), -1);
        for (int line : WRAPPED) {
            CHECK.due("line " + line, x.at(line, 0), -1);
        }
        CHECK.due("line and place", x.at(-1, 60), -1);
        CHECK.due("line -1 with the place of line 0", x.at(-1, 60 + 59), -1);
    }

    // ---- promise 6 and what a LINE is

    /** "A LINE is EMPTY, if it is all blank" */
    private static void emptyLines() {
        String[] lines = {"", " ", "|", " | ", " ".repeat(60), "|".repeat(60)};
        TableFinder x = Check.pageOf(lines);
        for (int line = 0; line < lines.length; line++) {
            CHECK.due("kind of <" + lines[line] + ">", x.kind(line), 0);
            CHECK.due("no block of <" + lines[line] + ">", x.find(line, line), -1);
        }
        TableFinder y = Check.pageOf(" ".repeat(59) + "x", "|".repeat(59) + "x", " ".repeat(57) + "---");
        CHECK.due("blanks, and something at the last place", y.kind(0), 2);
        CHECK.due("bars, and something at the last place", y.kind(1), 2);
        CHECK.due("blanks, and a rule at the last places", y.kind(2), 1);
    }

    /** "a RULE, if it has three or more of - and = (45, 61) in all" */
    private static void rulesOfThree() {
        String[] lines = {"-", "--", "---", "----", "=", "==", "===", "-=", "=-", "-=-", "=-=", "- -", "- = -", "+-+-+",
            "+-+-+-+", "|-|=|", "|-|=|-|", "-".repeat(60), "=".repeat(60), "--" + " ".repeat(58), "--" + " ".repeat(57) + "-",
            "+", "+|+ +", "+".repeat(60)};
        int[] kinds = {2, 2, 1, 1, 2, 2, 1, 2, 2, 1, 1, 2, 1, 2, 1, 2, 1, 1, 1, 2, 1, 2, 2, 2};
        TableFinder x = Check.pageOf(lines);
        for (int line = 0; line < lines.length; line++) {
            CHECK.due("kind of <" + lines[line] + ">", x.kind(line), kinds[line]);
        }
    }

    /** "and else nothing but blanks, + and bars (43, 124)" */
    private static void bytesOfRules() {
        TableFinder x = Check.pageOf("?---", "---?", "-?--");
        for (int b = 32; b <= 126; b++) {
            boolean rule = b == ' ' || b == '+' || b == '-' || b == '=' || b == '|';
            for (int line = 0; line < 3; line++) {
                CHECK.due("a rule", x.set(line, line == 0 ? 0 : line == 1 ? 3 : 1, b) > 0 ? 1 : 0, 1);
                if (line == b % 3) {
                    CHECK.due("kind of line " + line + " with byte " + b, x.kind(line), rule ? 1 : 2);
                }
            }
        }
    }

    /** "places .. beyond its end are blank, as are bytes 32; a bar (124) is blank, too" */
    private static void bytesThatAreBlank() {
        TableFinder x = Check.pageOf("a?c", "?");
        for (int b = 32; b <= 126; b++) {
            boolean blank = b == ' ' || b == '|';
            x.set(0, 1, b);
            CHECK.due("cut ahead of byte " + b, x.cost(0, 0, 2, 0), blank ? 4 : 10);
            x.set(1, 0, b);
            CHECK.due("kind of byte " + b, x.kind(1), blank ? 0 : 2);
        }
    }

    /** "What a LINE is: 0 EMPTY, 1 a RULE, 2 PLAIN. BAD." */
    private static void kindOfLines() {
        TableFinder x = Check.pageOf("|", "---", "a");
        CHECK.due("line -1", x.kind(-1), -1);
        CHECK.due("line 0", x.kind(0), 0);
        CHECK.due("line 1", x.kind(1), 1);
        CHECK.due("line 2", x.kind(2), 2);
        CHECK.due("line 3", x.kind(3), -1);
        CHECK.due("line 23", x.kind(23), -1);
        CHECK.due("line 24", x.kind(24), -1);
        for (int line : WRAPPED) {
            CHECK.due("line " + line, x.kind(line), -1);
        }
    }

    // ---- promise 7

    /** "BAD: .. b not 32 .. 126." */
    private static void setBytes() {
        TableFinder x = Check.pageOf("a");
        int was = 'a';
        for (int b = 0; b < 256; b++) {
            boolean good = b >= 32 && b <= 126;
            CHECK.due("set of byte " + b, x.set(0, 0, b), good ? was : -1);
            was = good ? b : was;
        }
        for (int b : WRAPPED) {
            CHECK.due("set of byte " + b, x.set(0, 0, b), -1);
        }
        CHECK.due("byte 65 beyond a byte", x.set(0, 0, 256 + 65), -1);
        CHECK.due("the last good one", x.at(0, 0), 126);
    }

    /** "BAD: also i is not below its length" */
    private static void setPlaces() {
        TableFinder x = Check.pageOf("", "a", SIXTY);
        CHECK.due("place 0 of none", x.set(0, 0, 'z'), -1);
        CHECK.due("place 0 of one", x.set(1, 0, 'z'), 'a');
        CHECK.due("place 1 of one", x.set(1, 1, 'z'), -1);
        CHECK.due("place 59 of sixty", x.set(2, 59, 'z'), '9');
        CHECK.due("place 60 of sixty", x.set(2, 60, 'z'), -1);
        CHECK.due("place -1", x.set(2, -1, 'z'), -1);
        CHECK.due("line -1", x.set(-1, 0, 'z'), -1);
        CHECK.due("line -1, a place of line 0", x.set(-1, 60, 'z'), -1);
        CHECK.due("line 3", x.set(3, 0, 'z'), -1);
        CHECK.due("line 24", x.set(24, 0, 'z'), -1);
        for (int i : WRAPPED) {
            CHECK.due("place " + i, x.set(2, i, 'z'), -1);
            CHECK.due("line " + i, x.set(i, 0, 'z'), -1);
        }
        CHECK.due("page", State.page(x), "page <> <z> <" + SIXTY.substring(0, 59) + "z>");
    }

    /** "Byte i of a LINE becomes another one: what it was." */
    private static void setChangesOneByte() {
        TableFinder x = Check.pageOf("abc", "def", "ghi");
        CHECK.due("set", x.set(1, 1, 'X'), 'e');
        CHECK.due("set to what it is", x.set(1, 1, 'X'), 'X');
        CHECK.due("page", State.page(x), "page <abc> <dXf> <ghi>");
    }

    private static void setMakesAnotherKind() {
        TableFinder x = Check.pageOf("--a");
        CHECK.due("plain", x.find(0, 0), 1);
        x.set(0, 2, '-');
        CHECK.due("a rule", x.find(0, 0), -1);
        x.set(0, 0, '|');
        x.set(0, 1, ' ');
        CHECK.due("one stroke is plain", x.kind(0), 2);
        x.set(0, 2, '|');
        CHECK.due("empty", x.kind(0), 0);
    }
}
