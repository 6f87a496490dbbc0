import java.util.Arrays;
import java.util.stream.IntStream;

/**
 * "Terms" 2 on READINGS with every READING of small BLOCKS: what each costs, and which of them find() takes;
 * and THE BEST with a CUT at each place that a LINE has.
 */
final class EveryReadingTest {
    private static final Check CHECK = new Check("EveryReadingTest");

    private EveryReadingTest() {
    }

    public static void main(String[] args) {
        everyLineOfNine();
        everyTwoLinesOfFive();
        secondColumnAtEachPlace();
        thirdColumnAtEachPlace();
        sevenCutsFromEachPlace();
        lineOfEachWidth();
        CHECK.end();
    }

    // ---- every READING

    /** Nine places have eight CUTS between them, one more than a READING may have. */
    private static void everyLineOfNine() {
        for (int inks = 1 << 8; inks < 1 << 9; inks++) {
            everyReading(lineOf(inks, inks % 3));
        }
    }

    private static void everyTwoLinesOfFive() {
        for (int one = 1; one < 1 << 5; one++) {
            for (int two = 1; two < 1 << 5; two++) {
                everyReading(lineOf(one, one % 2), lineOf(two, two % 3));
            }
        }
    }

    /** A LINE with something at the places of the bits, else blanks, bars or both. */
    private static String lineOf(int inks, int blanks) {
        StringBuilder text = new StringBuilder();
        for (int place = 0; inks >> place != 0; place++) {
            char blank = blanks == 0 || blanks == 2 && place % 2 == 0 ? ' ' : '|';
            text.append((inks >> place & 1) == 1 ? 'x' : blank);
        }
        return text.toString();
    }

    /** Tries READINGS with few COLUMNS first, of as many those whose first CUT that differs is less. */
    private static void everyReading(String... lines) {
        TableFinder x = Check.pageOf(lines);
        int last = lines.length - 1;
        int width = Math.max(lines[0].length(), lines[last].length());
        String name = " of " + String.join("/", lines);
        int best = Integer.MAX_VALUE;
        int next = 1000000;
        String cuts = "";
        for (int bits : bitsInOrder(width)) {
            int due = costOf(bits, width, lines);
            CHECK.due("cost at bits " + bits + name, x.cost(0, last, bits, 0), due);
            if (due >= 0 && due < best) {
                next = best == Integer.MAX_VALUE ? 1000000 : best;
                best = due;
                cuts = cutsOf(bits, width);
            } else if (due >= 0) {
                next = Math.min(next, due);
            }
        }
        CHECK.due("columns" + name, x.find(0, last), cuts.split(" ").length - 1);
        CHECK.due("cuts" + name, Check.cutsText(x), cuts);
        CHECK.due("best" + name, x.told(0), best);
        CHECK.due("next" + name, x.told(1), next);
    }

    /** The bit of the least place decides first: reversed, the greater number has the less CUT. */
    private static int[] bitsInOrder(int width) {
        return IntStream.range(0, 1 << width - 1).map(i -> i << 1).boxed()
            .sorted((one, two) -> Integer.bitCount(one) != Integer.bitCount(two)
                ? Integer.compare(Integer.bitCount(one), Integer.bitCount(two))
                : Integer.compareUnsigned(Integer.reverse(two), Integer.reverse(one)))
            .mapToInt(i -> i).toArray();
    }

    private static String cutsOf(int bits, int width) {
        StringBuilder text = new StringBuilder("0");
        for (int place = 1; place < width; place++) {
            text.append((bits >> place & 1) == 1 ? " " + place : "");
        }
        return text.append(' ').append(width).toString();
    }

    /** The COST as the document says it, -1 for more than 7 CUTS. */
    private static int costOf(int bits, int width, String... lines) {
        if (Integer.bitCount(bits) > 7) {
            return -1;
        }
        int[] cuts = Arrays.stream(cutsOf(bits, width).split(" ")).mapToInt(Integer::parseInt).toArray();
        int cost = 0;
        for (int i = 0; i + 1 < cuts.length; i++) {
            boolean blank = true;
            for (String line : lines) {
                String text = line.replace('|', ' ') + " ".repeat(width - line.length());
                String part = text.substring(cuts[i], cuts[i + 1]);
                blank = blank && part.isBlank();
                cost += 3 * rowsOfBlanks(part);
                cost += cuts[i] > 0 && text.charAt(cuts[i] - 1) != ' ' && text.charAt(cuts[i]) != ' ' ? 6 : 0;
            }
            cost += blank ? 2 + 20 : 2;
        }
        return cost;
    }

    private static int rowsOfBlanks(String part) {
        return part.isBlank() ? 0 : part.strip().split(" {2,}").length - 1;
    }

    // ---- a CUT at each place

    private static void best(String cuts, int best, int next, String... lines) {
        TableFinder x = Check.foundIn(lines);
        String name = " of " + String.join("/", lines);
        CHECK.due("cuts" + name, Check.cutsText(x), cuts);
        CHECK.due("cut behind them" + name, x.cutAt(cuts.split(" ").length), -1);
        CHECK.due("best" + name, x.told(0), best);
        CHECK.due("next" + name, x.told(1), next);
        int low = 0;
        int high = 0;
        for (int i = 1; i < x.size(0); i++) {
            low |= x.cutAt(i) < 32 ? 1 << x.cutAt(i) : 0;
            high |= x.cutAt(i) < 32 ? 0 : 1 << x.cutAt(i) - 32;
        }
        CHECK.due("cost" + name, x.cost(0, lines.length - 1, low, high), best);
    }

    /** The second LINE leaves one place alone for the CUT amid the blanks of the first one. */
    private static void secondColumnAtEachPlace() {
        for (int width = 4; width <= 60; width++) {
            for (int cut = 3; cut < width; cut++) {
                String left = "x".repeat(cut - 2) + "  ";
                best("0 " + cut + " " + width, 4, 5, left + "y".repeat(width - cut), "z".repeat(cut));
            }
        }
    }

    private static void thirdColumnAtEachPlace() {
        for (int cut = 6; cut < 60; cut++) {
            String left = "x  " + "y".repeat(cut - 5) + "  ";
            best("0 3 " + cut + " 60", 6, 7, left + "w".repeat(60 - cut), "zzz", "   " + "v".repeat(cut - 3));
        }
    }

    /** CUTS with three places between them, from the left end to the right one; a LINE stands in each COLUMN. */
    private static void sevenCutsFromEachPlace() {
        for (int shift = 0; shift <= 60 - 22; shift++) {
            StringBuilder one = new StringBuilder("x".repeat(shift));
            StringBuilder two = new StringBuilder("z".repeat(shift));
            StringBuilder cuts = new StringBuilder("0");
            for (int i = 1; i <= 7; i++) {
                one.append("x  ");
                two.append("zzz");
                cuts.append(' ').append(shift + 3 * i);
            }
            one.append("x".repeat(60 - 21 - shift));
            String[] lines = new String[9];
            lines[0] = one.toString();
            for (int i = 0; i < 8; i++) {
                int from = i == 0 ? 0 : shift + 3 * i;
                int to = i == 7 ? 60 : shift + 3 * i + 3;
                lines[i + 1] = " ".repeat(from) + "v".repeat(to - from);
            }
            best(cuts.append(" 60").toString(), 16, 14 + 3, lines);
        }
    }

    /** One COLUMN is THE BEST of a LINE without blanks, whatever its width. */
    private static void lineOfEachWidth() {
        for (int width = 1; width <= 60; width++) {
            best("0 " + width, 2, width == 1 ? 1000000 : 10, "x".repeat(width));
        }
    }
}
