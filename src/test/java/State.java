/** All that an object answers, as one text: two objects with the same text are in the same state. */
final class State {
    private State() {
    }

    /** Takes THE TAPE last, so that the object is of no use behind this. */
    static String of(TableFinder finder) {
        return page(finder) + found(finder) + table(finder) + tape(finder);
    }

    static String page(TableFinder finder) {
        StringBuilder text = new StringBuilder("page");
        for (int line = 0; finder.kind(line) >= 0; line++) {
            text.append(" <").append(Check.lineText(finder, line)).append('>');
        }
        return text.toString();
    }

    static String found(TableFinder finder) {
        StringBuilder text = new StringBuilder("\nfound");
        for (int what = 0; what < 5; what++) {
            text.append(' ').append(finder.told(what));
        }
        return text.append(" cuts ").append(Check.cutsText(finder)).toString();
    }

    static String table(TableFinder finder) {
        StringBuilder text = new StringBuilder("\ntable");
        for (int what = 0; what < 4; what++) {
            text.append(' ').append(finder.size(what));
        }
        for (int row = 0; finder.cell(row, 0, -1) >= 0; row++) {
            text.append(" <").append(Check.rowText(finder, row)).append('>');
        }
        for (int column = 0; column < finder.size(0); column++) {
            text.append(' ').append(finder.sum(column)).append(' ').append(finder.agrees(column));
        }
        return text.toString();
    }

    private static String tape(TableFinder finder) {
        finder.clear();
        return "\ntape <" + Check.lineText(finder, finder.line()) + ">";
    }
}
