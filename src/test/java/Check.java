/** What the tests share: typing pages, comparing answers, the end of a test. */
final class Check {
    private final String test;
    private int checks;
    private int wrong;

    Check(String test) {
        this.test = test;
    }

    void due(String call, long got, long want) {
        checks++;
        if (got != want) {
            wrong++;
            System.out.println(test + ": " + call + " answered " + got + ", due is " + want);
        }
    }

    void due(String call, String got, String want) {
        checks++;
        if (!got.equals(want)) {
            wrong++;
            System.out.println(test + ": " + call + " answered <" + got + ">, due is <" + want + ">");
        }
    }

    boolean allRight() {
        return wrong == 0;
    }

    void end() {
        System.out.println(test + ": " + checks + " checks, " + wrong + " wrong");
        if (wrong != 0 || checks == 0) {
            System.exit(1);
        }
    }

    /** The bytes of a text of 1 to 8 signs as type() takes them. */
    static long word(String text) {
        long w = 0;
        for (int i = 0; i < text.length(); i++) {
            w = w << 8 | text.charAt(i);
        }
        return w;
    }

    static int typeText(TableFinder finder, String text) {
        int answer = 0;
        for (int i = 0; i < text.length(); i += 8) {
            String part = text.substring(i, Math.min(text.length(), i + 8));
            answer = finder.type(word(part), part.length());
        }
        return answer;
    }

    static int typeLine(TableFinder finder, String text) {
        typeText(finder, text);
        return finder.line();
    }

    static TableFinder pageOf(String... lines) {
        TableFinder finder = new TableFinder();
        for (String line : lines) {
            typeLine(finder, line);
        }
        return finder;
    }

    static TableFinder foundIn(String... lines) {
        TableFinder finder = pageOf(lines);
        finder.find(0, lines.length - 1);
        return finder;
    }

    /** A CELL as text; "?" if there is none. */
    static String cellText(TableFinder finder, int row, int column) {
        int length = finder.cell(row, column, -1);
        if (length < 0) {
            return "?";
        }
        StringBuilder text = new StringBuilder();
        for (int i = 0; i < length; i++) {
            text.append((char) finder.cell(row, column, i));
        }
        return text.toString();
    }

    /** All CELLS of a ROW with slashes between them. */
    static String rowText(TableFinder finder, int row) {
        StringBuilder text = new StringBuilder();
        for (int column = 0; column < finder.size(0); column++) {
            text.append(column == 0 ? "" : "/").append(cellText(finder, row, column));
        }
        return text.toString();
    }

    /** A LINE with all the bytes that are its own: those that set() changes, and changes back. */
    static String lineText(TableFinder finder, int line) {
        StringBuilder text = new StringBuilder();
        for (int i = 0; i < 64; i++) {
            int b = finder.set(line, i, '?');
            if (b == TableFinder.BAD) {
                break;
            }
            finder.set(line, i, b);
            text.append((char) b);
        }
        return text.toString();
    }

    static String cutsText(TableFinder finder) {
        StringBuilder text = new StringBuilder();
        for (int i = 0; i < 10 && finder.cutAt(i) >= 0; i++) {
            text.append(i == 0 ? "" : " ").append(finder.cutAt(i));
        }
        return text.toString();
    }
}
