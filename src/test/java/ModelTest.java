/** Runs of pseudo-random calls (the same ones always), each answer compared with Model's. */
final class ModelTest {
    private static final Check CHECK = new Check("ModelTest");
    private static final int RUNS = 3500;
    private static final int CALLS = 512;
    private static final int CALLS_OF_A_PAGE = 250;
    private static final int CALLS_OF_A_BLOCK = 100;
    private static final String[] WORDS = {"oak", "elm tree", "a", "kg", "total", "of it", "x  y", "n", "--", "+", "red|blue", "="};
    private static final String[] NUMBERS = {"1", "12", "-1.5", "007", "999999.999", "0.25", "1234567", "3.", "-", "2"};
    private static final String[] BETWEEN = {"  ", " ", " | ", "|", "    ", "", "  "};

    private long state;
    private TableFinder finder;
    private Model model;
    private int calls;
    private final int[] seen = new int[5];

    private ModelTest() {
    }

    public static void main(String[] args) {
        ModelTest test = new ModelTest();
        for (int run = 1; run <= RUNS && CHECK.allRight(); run++) {
            test.run(run);
        }
        System.out.println("ModelTest: found " + test.seen[0] + ", more " + test.seen[1] + ", laid " + test.seen[2]
            + ", full " + test.seen[3] + ", agrees " + test.seen[4]);
        for (int count : test.seen) {
            CHECK.due("calls of each kind that did something", count > 20 ? 1 : 0, 1);
        }
        CHECK.end();
    }

    private int below(int bound) {
        state = state * 6364136223846793005L + 1442695040888963407L;
        return (int) Long.remainderUnsigned(state >>> 33, bound);
    }

    private void run(int number) {
        state = number;
        finder = new TableFinder();
        model = new Model();
        calls = 0;
        while (calls < CALLS - CALLS_OF_A_PAGE - CALLS_OF_A_BLOCK && CHECK.allRight()) {
            if (below(3) > 0) {
                typePage();
            }
            int blocks = 1 + below(5);
            for (int i = 0; i < blocks && calls < CALLS - CALLS_OF_A_BLOCK; i++) {
                readSome();
                lookAround();
                readLaid();
            }
        }
    }

    private void compare(String call, long got, long want) {
        calls++;
        CHECK.due("seed " + state + ", call " + calls + ": " + call, got, want);
    }

    // ---- pages

    private void typePage() {
        compare("clear", finder.clear(), model.clear());
        int style = below(8);
        if (style == 7) {
            typeLongTexts();
            return;
        }
        if (style >= 5) {
            typeAccount();
            return;
        }
        int columns = 1 + below(9);
        int[] widths = new int[columns];
        boolean[] ofNumbers = new boolean[columns];
        String[] between = new String[columns];
        for (int i = 0; i < columns; i++) {
            widths[i] = 1 + below(8);
            ofNumbers[i] = below(2) == 0;
            between[i] = BETWEEN[below(BETWEEN.length)];
        }
        int lines = 1 + below(12);
        for (int i = 0; i < lines; i++) {
            String text;
            int dice = below(12);
            if (dice == 0 && i > 0) {
                text = "";
            } else if (dice < 4) {
                text = ruleText();
            } else if (style == 0) {
                text = noise(1 + below(12), " |-=+ab1  ");
            } else if (style == 1 && below(3) == 0) {
                text = noise(below(61), "abc 12   ");
            } else {
                text = rowText(widths, ofNumbers, between);
            }
            typeLine(text.length() > 60 ? text.substring(0, 60) : text);
        }
    }

    /** Rows that run on, so that some CELLS have no room. */
    private void typeLongTexts() {
        int left = below(4);
        int lines = 2 + below(22);
        int length = 3 + below(40);
        for (int i = 0; i < lines; i++) {
            String key = i == 0 || below(3) == 0 ? "k".repeat(left) : " ".repeat(left);
            typeLine(below(8) == 0 ? "----" : key + "  " + "t".repeat(length));
        }
    }

    /** Numbers with a sum below that may be right; sometimes many rows. */
    private void typeAccount() {
        boolean headed = below(2) == 0;
        if (headed) {
            typeLine(below(3) == 0 ? "item  sum" : "item    n");
        }
        if (headed || below(4) > 0) {
            typeLine("---------");
        }
        int rows = 1 + below(below(3) == 0 ? 19 : 5);
        int sum = 0;
        for (int i = 0; i < rows; i++) {
            int n = below(50) - 5;
            sum += n;
            String number = " ".repeat(3) + n + (below(9) == 0 ? ".0" : "");
            typeLine((below(6) == 0 ? "    " : "row" + (char) ('a' + i)) + "  " + number.substring(number.length() - 3));
        }
        if (below(5) > 0) {
            typeLine("=========");
            typeLine("all   " + (below(3) > 0 ? sum : sum + 1));
        }
    }

    private String ruleText() {
        String[] rules = {"---", "--- ---", "+--+-+", "|===|", "------------", "--", "= = ="};
        return rules[below(rules.length)];
    }

    private String noise(int length, String signs) {
        StringBuilder text = new StringBuilder();
        for (int i = 0; i < length; i++) {
            text.append(signs.charAt(below(signs.length())));
        }
        return text.toString();
    }

    private String rowText(int[] widths, boolean[] ofNumbers, String[] between) {
        StringBuilder text = new StringBuilder();
        for (int i = 0; i < widths.length; i++) {
            String cell = ofNumbers[i] && below(12) > 0 ? NUMBERS[below(below(3) == 0 ? NUMBERS.length : 3)] : WORDS[below(WORDS.length)];
            cell = below(5) == 0 ? "" : cell;
            String fill = " ".repeat(Math.max(0, widths[i] - cell.length()));
            text.append(ofNumbers[i] ? fill + cell : cell + fill).append(between[i]);
        }
        return text.toString();
    }

    private void typeLine(String text) {
        for (int i = 0; i < text.length(); i += 8) {
            String part = text.substring(i, Math.min(text.length(), i + 8));
            long w = Check.word(part) | (part.length() < 8 ? (long) below(256) << 56 : 0);
            compare("type", finder.type(w, part.length()), model.type(w, part.length()));
        }
        if (below(20) == 0) {
            long w = (long) below(1 << 16) << 16 | below(1 << 16);
            int n = below(11) - 1;
            compare("type(" + w + ", " + n + ")", finder.type(w, n), model.type(w, n));
        }
        compare("line", finder.line(), model.line());
    }

    // ---- reading

    private void readSome() {
        int a = below(25) - 1;
        int b = a + below(10) - 1;
        if (below(4) > 0) {
            a = filledFrom(below(12));
            b = endFrom(a);
            b -= below(4) == 0 ? 1 : 0;
        }
        String ends = "(" + a + ", " + b + ")";
        for (int i = below(4); i > 0; i--) {
            int low = 1 << below(32) | 1 << below(16) | (below(3) == 0 ? 1 << below(16) | 1 << below(10) : 0);
            int high = below(4) == 0 ? 1 << below(32) : 0;
            compare("cost" + ends + low + " " + high, finder.cost(a, b, low, high), model.cost(a, b, low, high));
        }
        int got = below(3) == 0 ? more(a, b, ends) : find(a, b, ends);
        seen[3] += got == TableFinder.FULL ? 1 : 0;
        for (int i = -1; i < 6; i++) {
            compare("told(" + i + ")", finder.told(i), model.told(i));
        }
        for (int i = -1; i <= 9; i++) {
            compare("cutAt(" + i + ")", finder.cutAt(i), model.cutAt(i));
        }
    }

    private int find(int a, int b, String ends) {
        int got = finder.find(a, b);
        compare("find" + ends, got, model.find(a, b));
        seen[0] += got > 0 ? 1 : 0;
        return got;
    }

    private int more(int a, int b, String ends) {
        int got = finder.more(a, b);
        compare("more" + ends, got, model.more(a, b));
        seen[1] += got > 0 ? 1 : 0;
        return got;
    }

    /** A LINE from some on that is not EMPTY. */
    private int filledFrom(int line) {
        int a = line;
        while (model.kind(a) == 0) {
            a++;
        }
        return model.kind(a) < 0 ? 0 : a;
    }

    private int endFrom(int a) {
        int b = a;
        while (model.kind(b + 1) > 0) {
            b++;
        }
        return b;
    }

    /** A SET TABLE read again, and more of it. */
    private void readLaid() {
        if (below(3) > 0) {
            return;
        }
        int got = finder.lay();
        compare("lay", got, model.lay());
        seen[2] += got > 0 ? 1 : 0;
        for (int i = 0; i < 6; i++) {
            int line = below(26) - 1;
            compare("kind(" + line + ")", finder.kind(line), model.kind(line));
            int place = below(64) - 2;
            compare("at(" + line + ", " + place + ")", finder.at(line, place), model.at(line, place));
            int b = below(100) + 30;
            compare("set(" + line + ", " + place + ")", finder.set(line, place, b), model.set(line, place, b));
        }
        if (got > 0 && below(2) == 0) {
            more(0, got - 1, " of what was laid");
        }
    }

    // ---- the table

    private void lookAround() {
        for (int what = -1; what < 5; what++) {
            compare("size(" + what + ")", finder.size(what), model.size(what));
        }
        for (int column = -1; column < 3; column++) {
            lookAtColumn(column + (below(3) == 0 ? below(6) : 0));
        }
        for (int i = 0; i < 12; i++) {
            int row = below(3) > 0 ? below(6) : model.size(1) + below(4) - 1;
            int column = below(4) > 0 ? below(Math.max(1, model.size(0))) : below(10) - 1;
            int place = below(4) > 0 ? below(6) - 2 : below(64);
            String cell = "(" + row + ", " + column + ")";
            compare("value" + cell, finder.value(row, column), model.value(row, column));
            compare("cell" + cell + place, finder.cell(row, column, place), model.cell(row, column, place));
            compare("length of cell" + cell, finder.cell(row, column, -1), model.cell(row, column, -1));
        }
    }

    private void lookAtColumn(int column) {
        compare("numbers(" + column + ")", finder.numbers(column), model.numbers(column));
        compare("sum(" + column + ")", finder.sum(column), model.sum(column));
        int got = finder.agrees(column);
        compare("agrees(" + column + ")", got, model.agrees(column));
        seen[4] += got > 0 ? 1 : 0;
    }
}
