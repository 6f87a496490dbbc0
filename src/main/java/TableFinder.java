/**
 * Tables found in plain typed pages. The document ../shared/DOC.md says what each call answers;
 * its words in capitals are used here in the same sense.
 */
public final class TableFinder {
    public static final int BAD = -1, NOT = -2, FULL = -3;

    private static final int MAX_LINES = 24;
    private static final int MAX_WIDTH = 60;
    private static final int MAX_COLUMNS = 8;
    private static final int MAX_ROWS = 40;

    private static final int EMPTY = 0;
    private static final int RULE = 1;
    private static final int PLAIN = 2;

    private static final int BLANK = 32;
    private static final int PLUS = 43;
    private static final int MINUS = 45;
    private static final int POINT = 46;
    private static final int EQUAL = 61;
    private static final int BAR = 124;
    private static final int LAST_BYTE = 126;

    private static final int COLUMN_COST = 2;
    private static final int BLANK_COLUMN_COST = 20;
    private static final int GAP_COST = 3;
    private static final int CROSSING_COST = 6;

    /** Dearer than any READING: stands for "there is none" in the search and in told(). */
    private static final int NO_COST = 1000000;
    private static final int NO_VALUE = -2000000000;
    private static final long NO_SUM = -1000000000000L;

    private final int[] tape;
    private int tapeLength;
    private final Page page;
    private final Block block;
    private final Search search;
    // What a call finds is written to the candidates first, so that a refused call changes nothing.
    private Found found;
    private Found foundCandidate;
    private Table table;
    private Table tableCandidate;

    public TableFinder() {
        tape = new int[MAX_WIDTH];
        page = new Page();
        block = new Block();
        search = new Search();
        found = new Found();
        foundCandidate = new Found();
        table = new Table();
        tableCandidate = new Table();
    }

    // ---- 1 the page

    public int type(long w, int n) {
        if (n < 1 || n > 8) {
            return BAD;
        }
        for (int k = 0; k < n; k++) {
            if (!isTypable(byteOfWord(w, k))) {
                return BAD;
            }
        }
        if (tapeLength + n > MAX_WIDTH) {
            return FULL;
        }
        for (int k = n - 1; k >= 0; k--) {
            put(tape, tapeLength, byteOfWord(w, k));
            tapeLength++;
        }
        return tapeLength;
    }

    public int line() {
        if (page.count >= MAX_LINES) {
            return FULL;
        }
        int number = page.addLine(tapeLength, BLANK);
        for (int i = 0; i < tapeLength; i++) {
            page.putByte(number, i, pick(tape, i));
        }
        tapeLength = 0;
        return number;
    }

    public int clear() {
        int had = page.count;
        page.count = 0;
        return had;
    }

    public int at(int line, int i) {
        if (!page.holds(line) || i < 0 || i >= MAX_WIDTH) {
            return BAD;
        }
        return page.byteAt(line, i);
    }

    public int kind(int line) {
        return page.holds(line) ? page.kindOf(line) : BAD;
    }

    public int set(int line, int i, int b) {
        if (!page.holds(line) || i < 0 || i >= page.lengthOf(line) || !isTypable(b)) {
            return BAD;
        }
        int was = page.byteAt(line, i);
        page.putByte(line, i, b);
        return was;
    }

    // ---- 2 reading

    public int cost(int a, int b, int low, int high) {
        if (!page.isBlock(a, b)) {
            return BAD;
        }
        block.survey(page, a, b);
        return costOfReading(low, high);
    }

    public int find(int a, int b) {
        if (!page.isBlock(a, b)) {
            return BAD;
        }
        if (!readCandidate(a, b)) {
            return FULL;
        }
        Table old = table;
        table = tableCandidate;
        tableCandidate = old;
        keepFound();
        return table.columns;
    }

    public int more(int a, int b) {
        if (!page.isBlock(a, b)) {
            return BAD;
        }
        if (table.columns == 0) {
            return NOT;
        }
        if (!readCandidate(a, b)) {
            return FULL;
        }
        if (!table.goesTogetherWith(tableCandidate)) {
            return NOT;
        }
        if (table.rows + tableCandidate.rows > MAX_ROWS) {
            return FULL;
        }
        table.putBehind(tableCandidate);
        keepFound();
        return table.rows;
    }

    public int told(int what) {
        if (what < 0 || what > 4) {
            return BAD;
        }
        if (found.columns == 0) {
            return NOT;
        }
        switch (what) {
            case 0:
                return found.best;
            case 1:
                return found.next;
            case 2:
                return found.plainLines;
            case 3:
                return found.rules;
            default:
                return found.joinedLines;
        }
    }

    public int cutAt(int i) {
        if (found.columns == 0 || i < 0 || i > found.columns) {
            return BAD;
        }
        return pick(found.cuts, i);
    }

    // ---- 3 the table

    public int size(int what) {
        switch (what) {
            case 0:
                return table.columns;
            case 1:
                return table.rows;
            case 2:
                return table.hasHead() ? 1 : 0;
            case 3:
                return table.hasFoot() ? 1 : 0;
            default:
                return BAD;
        }
    }

    public int cell(int row, int column, int i) {
        if (!table.holds(row, column)) {
            return BAD;
        }
        int length = table.lengthOf(row, column);
        if (i == -1) {
            return length;
        }
        if (i < 0 || i >= length) {
            return BAD;
        }
        return table.byteOf(row, column, i);
    }

    public int value(int row, int column) {
        if (!table.holds(row, column)) {
            return NO_VALUE + BAD;
        }
        return table.valueOf(row, column);
    }

    public int numbers(int column) {
        if (!table.holds(0, column)) {
            return BAD;
        }
        return table.isOfNumbers(column) ? 1 : 0;
    }

    public long sum(int column) {
        if (!table.holds(0, column)) {
            return NO_SUM + BAD;
        }
        if (!table.isOfNumbers(column)) {
            return NO_SUM + NOT;
        }
        return table.sumOf(column);
    }

    public int agrees(int column) {
        if (!table.holds(0, column)) {
            return BAD;
        }
        int told = table.valueOf(table.rows + 1, column);
        if (told == NO_VALUE || !table.isOfNumbers(column)) {
            return 0;
        }
        return table.sumOf(column) == told ? 1 : 2;
    }

    public int lay() {
        if (table.columns == 0) {
            return NOT;
        }
        table.measure();
        if (table.laidLines() > MAX_LINES || table.laidWidth > MAX_WIDTH) {
            return FULL;
        }
        page.count = 0;
        table.layOn(page);
        return page.count;
    }

    // ---- what the calls have in common

    private int costOfReading(int low, int high) {
        int total = 0;
        int columns = 1;
        int from = 0;
        for (int place = 1; place < 64; place++) {
            if (!isCut(low, high, place)) {
                continue;
            }
            if (place >= block.width || columns >= MAX_COLUMNS) {
                return BAD;
            }
            total += block.columnCost(from, place) + block.crossingCost(place);
            columns++;
            from = place;
        }
        return total + block.columnCost(from, block.width);
    }

    private boolean readCandidate(int a, int b) {
        block.survey(page, a, b);
        search.readBest(block, foundCandidate);
        return tableCandidate.fill(block, foundCandidate);
    }

    private void keepFound() {
        Found old = found;
        found = foundCandidate;
        foundCandidate = old;
    }

    private static boolean isCut(int low, int high, int place) {
        int bits = place < 32 ? low >>> place : high >>> (place - 32);
        return (bits & 1) == 1;
    }

    private static int byteOfWord(long w, int k) {
        return (int) (w >>> (8 * k)) & 255;
    }

    private static boolean isTypable(int b) {
        return b >= BLANK && b <= LAST_BYTE;
    }

    private static boolean isDigit(int b) {
        return b >= 48 && b <= 57;
    }

    /** Element i, or 0 where the row has none. */
    private static int pick(int[] row, int i) {
        return i >= 0 && i < row.length ? row[i] : 0;
    }

    private static void put(int[] row, int i, int x) {
        if (i >= 0 && i < row.length) {
            row[i] = x;
        }
    }

    /** THE PAGE: its LINES, each with its bytes and its length. */
    private static final class Page {
        private final int[] bytes;
        private final int[] lengths;
        private int count;

        Page() {
            bytes = new int[MAX_LINES * MAX_WIDTH];
            lengths = new int[MAX_LINES];
        }

        boolean holds(int number) {
            return number >= 0 && number < count;
        }

        int lengthOf(int number) {
            return pick(lengths, number);
        }

        int byteAt(int number, int i) {
            if (i < 0 || i >= pick(lengths, number)) {
                return BLANK;
            }
            return pick(bytes, number * MAX_WIDTH + i);
        }

        void putByte(int number, int i, int b) {
            if (i >= 0 && i < pick(lengths, number)) {
                put(bytes, number * MAX_WIDTH + i, b);
            }
        }

        /** One more LINE, all of the same byte: its number. The caller has looked for room. */
        int addLine(int length, int b) {
            int number = count;
            put(lengths, number, length);
            for (int i = 0; i < length; i++) {
                putByte(number, i, b);
            }
            count++;
            return number;
        }

        int kindOf(int number) {
            int length = lengthOf(number);
            int strokes = 0;
            boolean ink = false;
            boolean other = false;
            for (int i = 0; i < length; i++) {
                int b = byteAt(number, i);
                boolean stroke = b == MINUS || b == EQUAL;
                boolean blank = b == BLANK || b == BAR;
                strokes += stroke ? 1 : 0;
                ink = ink || !blank;
                other = other || !blank && !stroke && b != PLUS;
            }
            if (!ink) {
                return EMPTY;
            }
            return strokes >= 3 && !other ? RULE : PLAIN;
        }

        boolean isBlock(int a, int b) {
            if (!holds(a) || !holds(b)) {
                return false;
            }
            boolean plain = false;
            for (int number = a; number <= b; number++) {
                int kind = kindOf(number);
                if (kind == EMPTY) {
                    return false;
                }
                plain = plain || kind == PLAIN;
            }
            return plain;
        }
    }

    /** A BLOCK: its PLAIN LINES, bars as blanks, their parts, and what CUTS and COLUMNS cost in it. */
    private static final class Block {
        private static final int ENDS = MAX_WIDTH + 1;

        private final int[] bytes;
        /** The PLAIN LINES' numbers on THE PAGE. */
        private final int[] numbersOfLines;
        private int plainCount;
        private int rules;
        private int firstRule;
        private int lastRule;
        private boolean headed;
        private boolean footed;
        private int width;
        private final int[] crossings;
        /** The first place from each one on at which a PLAIN LINE is not blank. */
        private final int[] nextInks;
        /** Rows of blanks that cost, by the first place and the end of a COLUMN. */
        private final int[] gaps;

        Block() {
            bytes = new int[MAX_LINES * MAX_WIDTH];
            numbersOfLines = new int[MAX_LINES];
            crossings = new int[ENDS];
            nextInks = new int[ENDS];
            gaps = new int[ENDS * ENDS];
        }

        /** The caller has looked whether LINES a to b are a BLOCK. */
        void survey(Page page, int a, int b) {
            plainCount = 0;
            rules = 0;
            for (int number = a; number <= b; number++) {
                if (page.kindOf(number) == RULE) {
                    firstRule = rules == 0 ? number : firstRule;
                    lastRule = number;
                    rules++;
                } else {
                    takeLine(page, number);
                }
            }
            seeParts();
            seeInks();
            seeGaps();
        }

        private void takeLine(Page page, int number) {
            put(numbersOfLines, plainCount, number);
            for (int place = 0; place < MAX_WIDTH; place++) {
                int b = page.byteAt(number, place);
                put(bytes, plainCount * MAX_WIDTH + place, b == BAR ? BLANK : b);
            }
            plainCount++;
        }

        private void seeParts() {
            headed = false;
            footed = false;
            if (rules == 0) {
                return;
            }
            for (int k = 0; k < plainCount; k++) {
                int number = pick(numbersOfLines, k);
                headed = headed || number > firstRule;
                footed = footed || number > firstRule && number < lastRule;
            }
        }

        private void seeInks() {
            width = 0;
            put(nextInks, MAX_WIDTH, MAX_WIDTH);
            for (int place = MAX_WIDTH - 1; place >= 0; place--) {
                int inks = 0;
                int crossed = 0;
                for (int k = 0; k < plainCount; k++) {
                    if (hasInk(k, place)) {
                        inks++;
                        crossed += place > 0 && hasInk(k, place - 1) ? 1 : 0;
                    }
                }
                width = inks > 0 && width == 0 ? place + 1 : width;
                put(nextInks, place, inks > 0 ? place : pick(nextInks, place + 1));
                put(crossings, place, CROSSING_COST * crossed);
            }
        }

        /** Each row of blanks is told at the narrowest COLUMN that holds it; the wider ones sum these up. */
        private void seeGaps() {
            for (int slot = 0; slot < gaps.length; slot++) {
                put(gaps, slot, 0);
            }
            for (int k = 0; k < plainCount; k++) {
                tellGaps(k);
            }
            for (int start = width - 1; start >= 0; start--) {
                for (int end = start + 1; end <= width; end++) {
                    int within = gapsIn(start, end - 1) + gapsIn(start + 1, end) - gapsIn(start + 1, end - 1);
                    put(gaps, start * ENDS + end, gapsIn(start, end) + within);
                }
            }
        }

        private void tellGaps(int k) {
            int last = -1;
            for (int place = 0; place < width; place++) {
                if (hasInk(k, place)) {
                    if (last >= 0 && place - last > 2) {
                        put(gaps, last * ENDS + place + 1, gapsIn(last, place + 1) + 1);
                    }
                    last = place;
                }
            }
        }

        private int gapsIn(int start, int end) {
            return pick(gaps, start * ENDS + end);
        }

        int byteAt(int k, int place) {
            return pick(bytes, k * MAX_WIDTH + place);
        }

        boolean hasInk(int k, int place) {
            return pick(bytes, k * MAX_WIDTH + place) != BLANK;
        }

        boolean isHead(int k) {
            return headed && pick(numbersOfLines, k) < firstRule;
        }

        boolean isFoot(int k) {
            return footed && pick(numbersOfLines, k) > lastRule;
        }

        int crossingCost(int place) {
            return pick(crossings, place);
        }

        int columnCost(int start, int end) {
            int blankCost = pick(nextInks, start) >= end ? BLANK_COLUMN_COST : 0;
            return COLUMN_COST + blankCost + GAP_COST * gapsIn(start, end);
        }
    }

    /** What told() and cutAt() tell of a BLOCK that was read; without COLUMNS nothing was. */
    private static final class Found {
        private final int[] cuts;
        private int columns;
        private int best;
        private int next;
        private int plainLines;
        private int rules;
        private int joinedLines;

        Found() {
            cuts = new int[MAX_COLUMNS + 1];
        }
    }

    /**
     * THE BEST and THE NEXT of a BLOCK. For each place and number of COLUMNS it holds the two least
     * costs of what lies from that place on, and the first CUT of the best; the place goes from the
     * right to the left, so that the first CUT that differs can be taken as the least.
     */
    private static final class Search {
        private final int[] least;
        private final int[] second;
        private final int[] firstCut;

        Search() {
            int slots = (MAX_COLUMNS + 1) * (MAX_WIDTH + 1);
            least = new int[slots];
            second = new int[slots];
            firstCut = new int[slots];
        }

        void readBest(Block block, Found into) {
            for (int start = block.width - 1; start >= 0; start--) {
                keep(slotOf(1, start), block.columnCost(start, block.width), NO_COST, block.width);
                for (int columns = 2; columns <= MAX_COLUMNS; columns++) {
                    readFrom(block, columns, start);
                }
            }
            chooseColumns(into);
            traceCuts(into);
            into.plainLines = block.plainCount;
            into.rules = block.rules;
            into.joinedLines = 0;
        }

        private void readFrom(Block block, int columns, int start) {
            int best = NO_COST;
            int next = NO_COST;
            int cut = 0;
            for (int end = start + 1; end < block.width; end++) {
                int rest = slotOf(columns - 1, end);
                int here = block.columnCost(start, end) + block.crossingCost(end);
                int one = Math.min(NO_COST, here + pick(least, rest));
                int two = Math.min(NO_COST, here + pick(second, rest));
                if (one < best) {
                    next = Math.min(best, two);
                    best = one;
                    cut = end;
                } else {
                    next = Math.min(next, one);
                }
            }
            keep(slotOf(columns, start), best, next, cut);
        }

        private void chooseColumns(Found into) {
            into.best = NO_COST;
            into.next = NO_COST;
            into.columns = 1;
            for (int columns = 1; columns <= MAX_COLUMNS; columns++) {
                int slot = slotOf(columns, 0);
                int one = pick(least, slot);
                if (one < into.best) {
                    into.next = Math.min(into.best, pick(second, slot));
                    into.best = one;
                    into.columns = columns;
                } else {
                    into.next = Math.min(into.next, one);
                }
            }
        }

        private void traceCuts(Found into) {
            int place = 0;
            put(into.cuts, 0, 0);
            for (int k = 1; k <= into.columns; k++) {
                place = pick(firstCut, slotOf(into.columns - k + 1, place));
                put(into.cuts, k, place);
            }
        }

        private void keep(int slot, int best, int next, int cut) {
            put(least, slot, best);
            put(second, slot, next);
            put(firstCut, slot, cut);
        }

        private static int slotOf(int columns, int place) {
            return columns * (MAX_WIDTH + 1) + place;
        }
    }

    /** A TABLE: CELLS by ROW and COLUMN; without COLUMNS there is none. */
    private static final class Table {
        /** The FOOT stands behind all ROWS that the BODY may ever have, so that these can grow. */
        private static final int FOOT_SLOT = MAX_ROWS + 1;
        private static final int BETWEEN = 2;

        private final int[] bytes;
        private final int[] lengths;
        private int columns;
        private int rows;
        // What SET asks of the COLUMNS, kept by measure() for layOn().
        private final int[] widths;
        private final int[] ofNumbers;
        private int laidWidth;

        Table() {
            int cells = (MAX_ROWS + 2) * MAX_COLUMNS;
            bytes = new int[cells * MAX_WIDTH];
            lengths = new int[cells];
            widths = new int[MAX_COLUMNS];
            ofNumbers = new int[MAX_COLUMNS];
        }

        boolean holds(int row, int column) {
            return column >= 0 && column < columns && row >= 0 && row <= rows + 1;
        }

        private int slotOf(int row, int column) {
            return (row > rows ? FOOT_SLOT : row) * MAX_COLUMNS + column;
        }

        int lengthOf(int row, int column) {
            return pick(lengths, slotOf(row, column));
        }

        /** Byte i of a CELL, or 0 beyond its end. */
        int byteOf(int row, int column, int i) {
            int slot = slotOf(row, column);
            if (i < 0 || i >= pick(lengths, slot)) {
                return 0;
            }
            return pick(bytes, slot * MAX_WIDTH + i);
        }

        boolean hasHead() {
            return hasText(0);
        }

        boolean hasFoot() {
            return hasText(rows + 1);
        }

        private boolean hasText(int row) {
            for (int column = 0; column < columns; column++) {
                if (lengthOf(row, column) > 0) {
                    return true;
                }
            }
            return false;
        }

        // -- made of a BLOCK

        /**
         * Whether what was found of a BLOCK has room; if not, what stands here is of no use. A BLOCK has
         * fewer LINES than a TABLE may have ROWS, so that only CELLS can be too long.
         */
        boolean fill(Block block, Found found) {
            columns = found.columns;
            rows = 0;
            for (int slot = 0; slot < lengths.length; slot++) {
                put(lengths, slot, 0);
            }
            for (int k = 0; k < block.plainCount; k++) {
                int row = rowOfLine(block, found, k);
                for (int column = 0; column < columns; column++) {
                    int from = pick(found.cuts, column);
                    int to = pick(found.cuts, column + 1);
                    if (!joinCell(block, k, from, to, slotOf(row, column))) {
                        return false;
                    }
                }
            }
            return true;
        }

        private int rowOfLine(Block block, Found found, int k) {
            if (block.isHead(k)) {
                return 0;
            }
            if (block.isFoot(k)) {
                return FOOT_SLOT;
            }
            int firstEnd = pick(found.cuts, 1);
            if (rows == 0 || firstInk(block, k, 0, firstEnd) < firstEnd) {
                rows++;
            } else {
                found.joinedLines++;
            }
            return rows;
        }

        /** The first place of some that is not blank, or their end. */
        private static int firstInk(Block block, int k, int from, int to) {
            int place = from;
            while (place < to && !block.hasInk(k, place)) {
                place++;
            }
            return place;
        }

        private boolean joinCell(Block block, int k, int from, int to, int slot) {
            int first = firstInk(block, k, from, to);
            int end = to;
            while (end > first && !block.hasInk(k, end - 1)) {
                end--;
            }
            if (first == end) {
                return true;
            }
            boolean room = pick(lengths, slot) == 0 || addByte(slot, BLANK);
            for (int place = first; place < end && room; place++) {
                room = addByte(slot, block.byteAt(k, place));
            }
            return room;
        }

        private boolean addByte(int slot, int b) {
            int length = pick(lengths, slot);
            if (length >= MAX_WIDTH) {
                return false;
            }
            put(bytes, slot * MAX_WIDTH + length, b);
            put(lengths, slot, length + 1);
            return true;
        }

        // -- joined with another one

        boolean goesTogetherWith(Table other) {
            return columns == other.columns && (!other.hasHead() || hasSameHead(other));
        }

        private boolean hasSameHead(Table other) {
            for (int column = 0; column < columns; column++) {
                int length = lengthOf(0, column);
                if (length != other.lengthOf(0, column)) {
                    return false;
                }
                for (int i = 0; i < length; i++) {
                    if (byteOf(0, column, i) != other.byteOf(0, column, i)) {
                        return false;
                    }
                }
            }
            return true;
        }

        /** The caller has looked for room. */
        void putBehind(Table other) {
            int added = other.rows;
            for (int row = 1; row <= added; row++) {
                rows++;
                takeRow(rows, other, row);
            }
            takeRow(rows + 1, other, added + 1);
        }

        private void takeRow(int row, Table other, int otherRow) {
            for (int column = 0; column < columns; column++) {
                int slot = slotOf(row, column);
                int length = other.lengthOf(otherRow, column);
                put(lengths, slot, length);
                for (int i = 0; i < length; i++) {
                    put(bytes, slot * MAX_WIDTH + i, other.byteOf(otherRow, column, i));
                }
            }
        }

        // -- its NUMBERS

        int valueOf(int row, int column) {
            int start = byteOf(row, column, 0) == MINUS ? 1 : 0;
            int whole = countDigits(row, column, start);
            if (whole < 1 || whole > 6) {
                return NO_VALUE;
            }
            int thousandfold = 1000 * readDigits(row, column, start, whole);
            int end = start + whole;
            if (byteOf(row, column, end) == POINT) {
                int parts = countDigits(row, column, end + 1);
                if (parts < 1 || parts > 3) {
                    return NO_VALUE;
                }
                int scale = parts == 1 ? 100 : parts == 2 ? 10 : 1;
                thousandfold += scale * readDigits(row, column, end + 1, parts);
                end += 1 + parts;
            }
            if (end != lengthOf(row, column)) {
                return NO_VALUE;
            }
            return start == 1 ? -thousandfold : thousandfold;
        }

        private int countDigits(int row, int column, int start) {
            int count = 0;
            while (count < MAX_WIDTH && isDigit(byteOf(row, column, start + count))) {
                count++;
            }
            return count;
        }

        private int readDigits(int row, int column, int start, int count) {
            int number = 0;
            for (int i = start; i < start + count; i++) {
                number = 10 * number + byteOf(row, column, i) - 48;
            }
            return number;
        }

        boolean isOfNumbers(int column) {
            boolean some = false;
            for (int row = 1; row <= rows; row++) {
                if (lengthOf(row, column) > 0) {
                    if (valueOf(row, column) == NO_VALUE) {
                        return false;
                    }
                    some = true;
                }
            }
            return some;
        }

        /** All VALUES of a COLUMN of NUMBERS. */
        long sumOf(int column) {
            long total = 0;
            for (int row = 1; row <= rows; row++) {
                if (lengthOf(row, column) > 0) {
                    total += valueOf(row, column);
                }
            }
            return total;
        }

        // -- SET

        int laidLines() {
            int heading = hasHead() ? 2 : 0;
            int footing = hasFoot() ? 2 : 0;
            int ruleAhead = hasFoot() && !hasHead() ? 1 : 0;
            return heading + ruleAhead + rows + footing;
        }

        void measure() {
            laidWidth = BETWEEN * (columns - 1);
            for (int column = 0; column < columns; column++) {
                int widest = 1;
                for (int row = 0; row <= rows + 1; row++) {
                    widest = Math.max(widest, lengthOf(row, column));
                }
                put(widths, column, widest);
                put(ofNumbers, column, isOfNumbers(column) ? 1 : 0);
                laidWidth += widest;
            }
        }

        /** The caller has measured, and looked for room. */
        void layOn(Page page) {
            if (hasHead()) {
                layRow(page, 0);
            }
            if (hasHead() || hasFoot()) {
                page.addLine(Math.max(3, laidWidth), MINUS);
            }
            for (int row = 1; row <= rows; row++) {
                layRow(page, row);
            }
            if (hasFoot()) {
                page.addLine(Math.max(3, laidWidth), MINUS);
                layRow(page, rows + 1);
            }
        }

        private void layRow(Page page, int row) {
            int number = page.addLine(laidWidth, BLANK);
            int left = 0;
            for (int column = 0; column < columns; column++) {
                int length = lengthOf(row, column);
                int wide = pick(widths, column);
                int shift = pick(ofNumbers, column) == 1 ? wide - length : 0;
                for (int i = 0; i < length; i++) {
                    page.putByte(number, left + shift + i, byteOf(row, column, i));
                }
                left += wide + BETWEEN;
            }
        }
    }
}
