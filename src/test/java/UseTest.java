import java.io.IOException;
import java.nio.file.Files;
import java.nio.file.Path;
import java.util.function.ToLongFunction;
import java.util.regex.Matcher;
import java.util.regex.Pattern;

/** How an object is used: README.md's example, up to the last of 512 calls, and two of them in turn. */
final class UseTest {
    private static final Check CHECK = new Check("UseTest");
    private static final int CALLS = 512;
    private static final String[] LINES = {"n  v", "----", "a  1", "---", "t  1"};

    private UseTest() {
    }

    public static void main(String[] args) throws IOException {
        exampleOfReadme();
        refusalsOfReadme();
        lastCallOfEachKind();
        dearestCallsToTheLast();
        objectsInTurn();
        CHECK.end();
    }

    // ---- README.md

    private static String readme() throws IOException {
        return Files.readString(Path.of("README.md"));
    }

    /** A line of README.md with a call tells its answer: what it tells is what is due. */
    private static void shown(String call, long got) throws IOException {
        Matcher line = Pattern.compile("(?m)^" + Pattern.quote(call) + "; +// (-?\\d+)").matcher(readme());
        boolean there = line.find();
        CHECK.due("README.md shows " + call, there ? 1 : 0, 1);
        if (there) {
            CHECK.due("README.md: " + call, got, Long.parseLong(line.group(1)));
        }
    }

    private static void exampleOfReadme() throws IOException {
        TableFinder finder = new TableFinder();
        CHECK.due("README.md makes one", readme().contains("\nTableFinder finder = new TableFinder();\n") ? 1 : 0, 1);
        shown("finder.type(0x6f616b2020203132L, 8)", finder.type(0x6f616b2020203132L, 8));
        shown("finder.line()", finder.line());
        shown("finder.kind(0)", finder.kind(0));
        shown("finder.find(0, 0)", finder.find(0, 0));
        shown("finder.cutAt(1)", finder.cutAt(1));
        shown("finder.told(0)", finder.told(0));
        shown("finder.cost(0, 0, 0, 0)", finder.cost(0, 0, 0, 0));
        shown("finder.more(0, 0)", finder.more(0, 0));
        shown("finder.cell(1, 0, -1)", finder.cell(1, 0, -1));
        shown("finder.cell(1, 0, 0)", finder.cell(1, 0, 0));
        shown("finder.value(2, 1)", finder.value(2, 1));
        shown("finder.sum(1)", finder.sum(1));
        shown("finder.lay()", finder.lay());
        shown("finder.cell(1, 0, 3)", finder.cell(1, 0, 3));
        CHECK.due("what was laid", State.page(finder), "page <oak  12> <oak  12>");
    }

    private static void refusalsOfReadme() throws IOException {
        String text = readme().replaceAll("\\s+", " ");
        String[] words = {"`BAD` -1", "`NOT` -2", "`FULL` -3", "`value()` answers -2000000001",
            "`sum()` -1000000000001", "-1000000000002", "at most 512 calls"};
        for (String word : words) {
            CHECK.due("README.md says " + word, text.contains(word) ? 1 : 0, 1);
        }
        CHECK.due("value", new TableFinder().value(0, 0), -2000000001);
        CHECK.due("sum", new TableFinder().sum(0), -1000000000001L);
        CHECK.due("sum of words", Check.foundIn("a").sum(0), -1000000000002L);
    }

    // ---- "An object is used for at most 512 calls after it has been made"

    /** An object whose LINES are found, behind some calls in all that leave it as it is then. */
    private static TableFinder usedFor(int calls) {
        TableFinder x = Check.pageOf(LINES);
        CHECK.due("find", x.find(0, 4), 2);
        for (int call = 2 * LINES.length + 2; call <= calls; call++) {
            switch (call % 5) {
                case 0 -> CHECK.due("call " + call, x.find(0, 4), 2);
                case 1 -> CHECK.due("call " + call, x.cost(0, 4, 2, 0), 4);
                case 2 -> CHECK.due("call " + call, x.more(1, 1), -1);
                case 3 -> CHECK.due("call " + call, x.set(2, 0, 'a'), 'a');
                default -> CHECK.due("call " + call, x.agrees(1), 1);
            }
        }
        return x;
    }

    private static void last(String name, long due, ToLongFunction<TableFinder> call) {
        CHECK.due("call " + CALLS + ": " + name, call.applyAsLong(usedFor(CALLS - 1)), due);
    }

    private static void lastCallOfEachKind() {
        last("type", 1, x -> x.type('x', 1));
        last("line", 5, TableFinder::line);
        last("clear", 5, TableFinder::clear);
        last("at", 'a', x -> x.at(2, 0));
        last("kind", 1, x -> x.kind(1));
        last("set", 'a', x -> x.set(2, 0, 'b'));
        last("cost", 4, x -> x.cost(0, 4, 2, 0));
        last("find", 2, x -> x.find(0, 4));
        last("more", 2, x -> x.more(0, 4));
        last("told", 3, x -> x.told(2));
        last("cutAt", 1, x -> x.cutAt(1));
        last("size", 2, x -> x.size(0));
        last("cell", 'a', x -> x.cell(1, 0, 0));
        last("value", 1000, x -> x.value(1, 1));
        last("numbers", 1, x -> x.numbers(1));
        last("sum", 1000, x -> x.sum(1));
        last("agrees", 1, x -> x.agrees(1));
        last("lay", 5, TableFinder::lay);
    }

    /** A full PAGE takes 216 calls; behind it come calls that read and set all of it. */
    private static void dearestCallsToTheLast() {
        TableFinder x = new TableFinder();
        for (int line = 0; line < 24; line++) {
            Check.typeLine(x, "x  ".repeat(20));
        }
        for (int call = 24 * 9 + 1; call < CALLS; call += 2) {
            CHECK.due("call " + call + ": find", x.find(0, 23), 8);
            CHECK.due("call " + (call + 1) + ": lay", x.lay(), 24);
        }
    }

    // ---- promise 1: each object has a PAGE, a TAPE and a TABLE of its own

    private static void objectsInTurn() {
        TableFinder one = new TableFinder();
        TableFinder two = new TableFinder();
        String[] others = {"b    2", "     3", "c    4", "x  y", "z"};
        for (int line = 0; line < LINES.length; line++) {
            Check.typeText(one, LINES[line]);
            Check.typeText(two, others[line]);
            CHECK.due("line of the first", one.line(), line);
            CHECK.due("line of the second", two.line(), line);
        }
        CHECK.due("find by the first", one.find(0, 4), 2);
        CHECK.due("nothing is found by the second", two.told(0), -2);
        CHECK.due("find by the second", two.find(0, 2), 2);
        one.type('o', 1);
        CHECK.due("find by both", one.find(0, 4) + two.find(0, 2), 4);
        TableFinder alone = Check.foundIn(LINES);
        alone.type('o', 1);
        CHECK.due("the first", State.of(one), State.of(alone));
        TableFinder other = Check.pageOf(others);
        other.find(0, 2);
        CHECK.due("the second", State.of(two), State.of(other));
    }
}
