/** Calls with numbers far off, at edges and where they wrap around, each answer compared with Model's. */
final class WildTest {
    private static final Check CHECK = new Check("WildTest");
    private static final int RUNS = 600;
    private static final int[] EDGES = {Integer.MIN_VALUE, Integer.MIN_VALUE + 1, -65536, -256, -3, -2, -1, 0, 1, 2, 3, 4, 5, 7, 8,
        9, 22, 23, 24, 25, 31, 32, 33, 40, 41, 42, 59, 60, 61, 63, 64, 124, 126, 127, 255, 256, 1 << 30, Integer.MAX_VALUE - 1,
        Integer.MAX_VALUE};
    private static final String[] LINES = {"a  1", "   2", "---", "t  3", "|", "", "b|  4|", "- =-", "w", "x".repeat(60)};

    private long state;
    private final TableFinder finder = new TableFinder();
    private final Model model = new Model();

    private WildTest(int run) {
        state = run;
    }

    public static void main(String[] args) {
        for (int run = 1; run <= RUNS && CHECK.allRight(); run++) {
            new WildTest(run).run();
        }
        CHECK.end();
    }

    private int below(int bound) {
        state = state * 6364136223846793005L + 1442695040888963407L;
        return (int) Long.remainderUnsigned(state >>> 33, bound);
    }

    private int edge() {
        return EDGES[below(EDGES.length)];
    }

    private int near() {
        return below(3) == 0 ? edge() : below(4) - (below(4) == 0 ? 1 : 0);
    }

    private long wildWord() {
        long w = 0;
        for (int k = 0; k < 8; k++) {
            w = w << 8 | (below(12) == 0 ? edge() & 255 : 32 + below(95));
        }
        return w;
    }

    private void due(String call, long got, long want) {
        CHECK.due("run with state " + state + ": " + call, got, want);
    }

    /** Some 500 calls, as many as an object is used for. */
    private void run() {
        int lines = below(24);
        for (int i = 0; i < lines; i++) {
            typeLine(LINES[below(LINES.length)]);
        }
        for (int i = 0; i < 300; i++) {
            switch (below(3)) {
                case 0 -> callOfPage();
                case 1 -> callOfReading();
                default -> callOfTable();
            }
        }
    }

    private void typeLine(String text) {
        for (int i = 0; i < text.length(); i += 8) {
            String part = text.substring(i, Math.min(text.length(), i + 8));
            due("type", finder.type(Check.word(part), part.length()), model.type(Check.word(part), part.length()));
        }
        due("line", finder.line(), model.line());
    }

    private void callOfPage() {
        int a = near();
        int b = near();
        int c = below(2) == 0 ? 32 + below(95) : edge();
        long w = wildWord();
        switch (below(24)) {
            case 0 -> due("clear()", finder.clear(), model.clear());
            case 1, 2 -> due("line()", finder.line(), model.line());
            case 3, 4, 5, 6 -> due("type(" + w + ", " + a + ")", finder.type(w, a), model.type(w, a));
            case 7, 8, 9, 10 -> due("at(" + a + ", " + b + ")", finder.at(a, b), model.at(a, b));
            case 11, 12, 13, 14 -> due("kind(" + a + ")", finder.kind(a), model.kind(a));
            default -> due("set(" + a + ", " + b + ", " + c + ")", finder.set(a, b, c), model.set(a, b, c));
        }
    }

    private void callOfReading() {
        int a = near();
        int b = below(2) == 0 ? near() : a + below(4);
        int low = below(3) == 0 ? edge() : 1 << below(32) | 1 << below(8);
        int high = below(3) == 0 ? edge() : 0;
        String ends = "(" + a + ", " + b + ")";
        switch (below(8)) {
            case 0, 1 -> due("cost" + ends + low + " " + high, finder.cost(a, b, low, high), model.cost(a, b, low, high));
            case 2, 3 -> due("find" + ends, finder.find(a, b), model.find(a, b));
            case 4, 5 -> due("more" + ends, finder.more(a, b), model.more(a, b));
            case 6 -> due("told(" + a + ")", finder.told(a), model.told(a));
            default -> due("cutAt(" + a + ")", finder.cutAt(a), model.cutAt(a));
        }
    }

    private void callOfTable() {
        int row = near();
        int column = near();
        int i = near();
        String cell = "(" + row + ", " + column + ")";
        switch (below(24)) {
            case 0 -> due("lay()", finder.lay(), model.lay());
            case 1, 2, 3 -> due("size(" + i + ")", finder.size(i), model.size(i));
            case 4, 5, 6, 7 -> due("value" + cell, finder.value(row, column), model.value(row, column));
            case 8, 9, 10 -> due("numbers(" + column + ")", finder.numbers(column), model.numbers(column));
            case 11, 12, 13 -> due("sum(" + column + ")", finder.sum(column), model.sum(column));
            case 14, 15, 16 -> due("agrees(" + column + ")", finder.agrees(column), model.agrees(column));
            default -> due("cell" + cell + i, finder.cell(row, column, i), model.cell(row, column, i));
        }
    }
}
