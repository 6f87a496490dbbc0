import java.util.ArrayList;
import java.util.Arrays;
import java.util.List;

/** The document once more, as plainly as it can be written with the whole library, to compare answers with. */
final class Model {
    private static final int BAD = -1;
    private static final int NOT = -2;
    private static final int FULL = -3;

    /** A CUT list with its cost; the better one comes first. */
    private record Reading(int cost, int[] cuts) implements Comparable<Reading> {
        @Override
        public int compareTo(Reading other) {
            if (cost != other.cost) {
                return Integer.compare(cost, other.cost);
            }
            if (cuts.length != other.cuts.length) {
                return Integer.compare(cuts.length, other.cuts.length);
            }
            return Arrays.compare(cuts, other.cuts);
        }
    }

    private static final class Table {
        String[] head;
        String[] foot;
        final List<String[]> body = new ArrayList<>();
    }

    private static final class Finding {
        Reading best;
        int next;
        int plain;
        int rules;
        int joined;
        Table table;
    }

    private String tape = "";
    private List<String> page = new ArrayList<>();
    private Finding latest;
    private Table table;

    // ---- the page

    int type(long w, int n) {
        if (n < 1 || n > 8) {
            return BAD;
        }
        StringBuilder text = new StringBuilder();
        for (int i = n - 1; i >= 0; i--) {
            int b = (int) (w >> (8 * i) & 0xFF);
            if (b < 32 || b > 126) {
                return BAD;
            }
            text.append((char) b);
        }
        if (tape.length() + n > 60) {
            return FULL;
        }
        tape += text;
        return tape.length();
    }

    int line() {
        if (page.size() == 24) {
            return FULL;
        }
        page.add(tape);
        tape = "";
        return page.size() - 1;
    }

    int clear() {
        int had = page.size();
        page = new ArrayList<>();
        return had;
    }

    int at(int line, int i) {
        if (line < 0 || line >= page.size() || i < 0 || i > 59) {
            return BAD;
        }
        return padded(page.get(line)).charAt(i);
    }

    int kind(int line) {
        if (line < 0 || line >= page.size()) {
            return BAD;
        }
        String text = page.get(line);
        if (text.matches("[ |]*")) {
            return 0;
        }
        return text.matches("[-=+| ]*") && text.replaceAll("[^-=]", "").length() >= 3 ? 1 : 2;
    }

    int set(int line, int i, int b) {
        if (line < 0 || line >= page.size() || i < 0 || i >= page.get(line).length() || b < 32 || b > 126) {
            return BAD;
        }
        StringBuilder text = new StringBuilder(page.get(line));
        int was = text.charAt(i);
        text.setCharAt(i, (char) b);
        page.set(line, text.toString());
        return was;
    }

    private static String padded(String text) {
        return text + " ".repeat(60 - text.length());
    }

    // ---- reading

    private boolean isBlock(int a, int b) {
        if (a < 0 || b < 0 || a >= page.size() || b >= page.size()) {
            return false;
        }
        int plain = 0;
        for (int i = a; i <= b; i++) {
            if (kind(i) == 0) {
                return false;
            }
            plain += kind(i) == 2 ? 1 : 0;
        }
        return plain > 0;
    }

    private List<String> plainLines(int a, int b) {
        List<String> lines = new ArrayList<>();
        for (int i = a; i <= b; i++) {
            if (kind(i) == 2) {
                lines.add(padded(page.get(i)).replace('|', ' '));
            }
        }
        return lines;
    }

    private static int width(List<String> lines) {
        int width = 0;
        for (String text : lines) {
            width = Math.max(width, text.stripTrailing().length());
        }
        return width;
    }

    private static int columnCost(List<String> lines, int from, int to) {
        int cost = 2;
        boolean blank = true;
        for (String text : lines) {
            String cell = text.substring(from, to).strip();
            blank &= cell.isEmpty();
            int run = 0;
            for (char c : cell.toCharArray()) {
                run = c == ' ' ? run + 1 : 0;
                cost += run == 2 ? 3 : 0;
            }
        }
        return cost + (blank ? 20 : 0);
    }

    private static int cutCost(List<String> lines, int cut) {
        int cost = 0;
        for (String text : lines) {
            cost += text.charAt(cut - 1) != ' ' && text.charAt(cut) != ' ' ? 6 : 0;
        }
        return cost;
    }

    private static int readingCost(List<String> lines, int[] cuts) {
        int cost = 0;
        for (int i = 1; i < cuts.length; i++) {
            cost += columnCost(lines, cuts[i - 1], cuts[i]);
            cost += i < cuts.length - 1 ? cutCost(lines, cuts[i]) : 0;
        }
        return cost;
    }

    int cost(int a, int b, int low, int high) {
        if (!isBlock(a, b)) {
            return BAD;
        }
        List<String> lines = plainLines(a, b);
        int width = width(lines);
        List<Integer> cuts = new ArrayList<>();
        cuts.add(0);
        long bits = (long) high << 32 | low & 0xFFFFFFFFL;
        for (int i = 1; i < 64; i++) {
            if ((bits >> i & 1) == 1) {
                if (i >= width) {
                    return BAD;
                }
                cuts.add(i);
            }
        }
        cuts.add(width);
        return cuts.size() > 9 ? BAD : readingCost(lines, cuts.stream().mapToInt(i -> i).toArray());
    }

    /** The two best READINGS (or the only one): all of them tried if there are few, else lists kept. */
    private static List<Reading> bestTwo(List<String> lines) {
        int width = width(lines);
        return width <= 10 ? bestTwoOfAll(lines, width) : bestTwoOfLists(lines, width);
    }

    private static List<Reading> bestTwoOfAll(List<String> lines, int width) {
        List<Reading> all = new ArrayList<>();
        for (int bits = 0; bits < 1 << width - 1; bits++) {
            if (Integer.bitCount(bits) > 7) {
                continue;
            }
            int[] cuts = new int[Integer.bitCount(bits) + 2];
            int count = 1;
            for (int i = 1; i < width; i++) {
                if ((bits >> i - 1 & 1) == 1) {
                    cuts[count++] = i;
                }
            }
            cuts[count] = width;
            all.add(new Reading(readingCost(lines, cuts), cuts));
        }
        all.sort(null);
        return all.subList(0, Math.min(2, all.size()));
    }

    private static List<Reading> bestTwoOfLists(List<String> lines, int width) {
        int[][] costs = new int[width][width + 1];
        for (int from = 0; from < width; from++) {
            for (int to = from + 1; to <= width; to++) {
                costs[from][to] = columnCost(lines, from, to) + (to < width ? cutCost(lines, to) : 0);
            }
        }
        List<Reading> whole = new ArrayList<>();
        List<List<Reading>> ahead = new ArrayList<>();
        for (int end = 0; end <= width; end++) {
            ahead.add(end == 0 ? List.of(new Reading(0, new int[] {0})) : List.of());
        }
        for (int columns = 1; columns <= 8; columns++) {
            List<List<Reading>> now = new ArrayList<>();
            for (int end = 0; end <= width; end++) {
                List<Reading> here = new ArrayList<>();
                for (int from = 0; from < end; from++) {
                    for (Reading one : ahead.get(from)) {
                        int[] cuts = Arrays.copyOf(one.cuts, columns + 1);
                        cuts[columns] = end;
                        here.add(new Reading(one.cost + costs[from][end], cuts));
                    }
                }
                here.sort(null);
                now.add(here.subList(0, Math.min(2, here.size())));
            }
            whole.addAll(now.get(width));
            ahead = now;
        }
        whole.sort(null);
        return whole.subList(0, Math.min(2, whole.size()));
    }

    private static String[] cells(String text, int[] cuts) {
        String[] cells = new String[cuts.length - 1];
        for (int i = 0; i < cells.length; i++) {
            cells[i] = text.substring(cuts[i], cuts[i + 1]).strip();
        }
        return cells;
    }

    private static void join(String[] row, String[] cells) {
        for (int i = 0; i < row.length; i++) {
            row[i] = cells[i].isEmpty() ? row[i] : row[i].isEmpty() ? cells[i] : row[i] + " " + cells[i];
        }
    }

    private static String[] emptyRow(int columns) {
        String[] row = new String[columns];
        Arrays.fill(row, "");
        return row;
    }

    /** What is FOUND; null if a CELL has no room. */
    private Finding read(int a, int b) {
        Finding finding = new Finding();
        List<String> lines = plainLines(a, b);
        List<Reading> readings = bestTwo(lines);
        finding.best = readings.get(0);
        finding.next = readings.size() > 1 ? readings.get(1).cost : 1000000;
        finding.plain = lines.size();
        finding.rules = b - a + 1 - lines.size();
        int first = -1;
        int last = -1;
        for (int i = a; i <= b; i++) {
            if (kind(i) == 1) {
                first = first < 0 ? i : first;
                last = i;
            }
        }
        boolean behind = first >= 0 && first < b && !plainLines(first, b).isEmpty();
        boolean between = first >= 0 && !plainLines(first, last).isEmpty();
        fill(finding, a, b, behind ? first : -1, between ? last : 99);
        List<String[]> rows = new ArrayList<>(finding.table.body);
        rows.add(finding.table.head);
        rows.add(finding.table.foot);
        for (String[] row : rows) {
            for (String cell : row) {
                if (cell.length() > 60) {
                    return null;
                }
            }
        }
        return finding;
    }

    private void fill(Finding finding, int a, int b, int headsEnd, int feetStart) {
        int columns = finding.best.cuts.length - 1;
        Table made = new Table();
        made.head = emptyRow(columns);
        made.foot = emptyRow(columns);
        for (int i = a; i <= b; i++) {
            if (kind(i) == 1) {
                continue;
            }
            String[] cells = cells(padded(page.get(i)).replace('|', ' '), finding.best.cuts);
            if (i < headsEnd) {
                join(made.head, cells);
            } else if (i > feetStart) {
                join(made.foot, cells);
            } else if (made.body.isEmpty() || !cells[0].isEmpty()) {
                made.body.add(cells);
            } else {
                join(made.body.get(made.body.size() - 1), cells);
                finding.joined++;
            }
        }
        finding.table = made;
    }

    int find(int a, int b) {
        if (!isBlock(a, b)) {
            return BAD;
        }
        Finding finding = read(a, b);
        if (finding == null) {
            return FULL;
        }
        latest = finding;
        table = new Table();
        table.head = finding.table.head;
        table.foot = finding.table.foot;
        table.body.addAll(finding.table.body);
        return table.head.length;
    }

    int more(int a, int b) {
        if (!isBlock(a, b)) {
            return BAD;
        }
        if (table == null) {
            return NOT;
        }
        Finding finding = read(a, b);
        if (finding == null) {
            return FULL;
        }
        Table other = finding.table;
        boolean sameHead = Arrays.equals(other.head, table.head) || !hasText(other.head);
        if (other.head.length != table.head.length || !sameHead) {
            return NOT;
        }
        if (table.body.size() + other.body.size() > 40) {
            return FULL;
        }
        latest = finding;
        table.body.addAll(other.body);
        table.foot = other.foot;
        return table.body.size();
    }

    int told(int what) {
        if (what < 0 || what > 4) {
            return BAD;
        }
        if (latest == null) {
            return NOT;
        }
        return new int[] {latest.best.cost, latest.next, latest.plain, latest.rules, latest.joined}[what];
    }

    int cutAt(int i) {
        return latest == null || i < 0 || i >= latest.best.cuts.length ? BAD : latest.best.cuts[i];
    }

    // ---- the table

    private static boolean hasText(String[] row) {
        return !String.join("", row).isEmpty();
    }

    private String cellOf(int row, int column) {
        if (table == null || column < 0 || column >= table.head.length || row < 0 || row > table.body.size() + 1) {
            return null;
        }
        String[] cells = row == 0 ? table.head : row > table.body.size() ? table.foot : table.body.get(row - 1);
        return cells[column];
    }

    int size(int what) {
        if (what < 0 || what > 3) {
            return BAD;
        }
        if (table == null) {
            return 0;
        }
        int head = hasText(table.head) ? 1 : 0;
        int foot = hasText(table.foot) ? 1 : 0;
        return new int[] {table.head.length, table.body.size(), head, foot}[what];
    }

    int cell(int row, int column, int i) {
        String text = cellOf(row, column);
        if (text == null || i < -1 || i >= text.length()) {
            return BAD;
        }
        return i == -1 ? text.length() : text.charAt(i);
    }

    private static boolean isNumber(String text) {
        return text.matches("-?[0-9]{1,6}([.][0-9]{1,3})?");
    }

    private static int valueOf(String text) {
        return new java.math.BigDecimal(text).movePointRight(3).intValueExact();
    }

    int value(int row, int column) {
        String text = cellOf(row, column);
        if (text == null) {
            return -2000000001;
        }
        return isNumber(text) ? valueOf(text) : -2000000000;
    }

    int numbers(int column) {
        if (cellOf(0, column) == null) {
            return BAD;
        }
        int some = 0;
        for (String[] row : table.body) {
            if (!row[column].isEmpty()) {
                if (!isNumber(row[column])) {
                    return 0;
                }
                some = 1;
            }
        }
        return some;
    }

    long sum(int column) {
        int numbers = numbers(column);
        if (numbers < 1) {
            return -1000000000000L + (numbers == 0 ? NOT : BAD);
        }
        long sum = 0;
        for (String[] row : table.body) {
            sum += row[column].isEmpty() ? 0 : valueOf(row[column]);
        }
        return sum;
    }

    int agrees(int column) {
        if (numbers(column) < 1) {
            return numbers(column);
        }
        String foot = table.foot[column];
        return !isNumber(foot) ? 0 : valueOf(foot) == sum(column) ? 1 : 2;
    }

    int lay() {
        if (table == null) {
            return NOT;
        }
        List<String> lines = new ArrayList<>();
        boolean head = hasText(table.head);
        boolean foot = hasText(table.foot);
        int wide = setRow(table.head).length();
        String rule = "-".repeat(Math.max(3, wide));
        if (head) {
            lines.add(setRow(table.head));
        }
        if (head || foot) {
            lines.add(rule);
        }
        for (String[] row : table.body) {
            lines.add(setRow(row));
        }
        if (foot) {
            lines.add(rule);
            lines.add(setRow(table.foot));
        }
        if (lines.size() > 24 || wide > 60) {
            return FULL;
        }
        page = lines;
        return lines.size();
    }

    private String setRow(String[] row) {
        List<String> set = new ArrayList<>();
        for (int column = 0; column < row.length; column++) {
            int wide = 1;
            for (int i = 0; i <= table.body.size() + 1; i++) {
                wide = Math.max(wide, cellOf(i, column).length());
            }
            String fill = " ".repeat(wide - row[column].length());
            set.add(numbers(column) == 1 ? fill + row[column] : row[column] + fill);
        }
        return String.join("  ", set);
    }
}
