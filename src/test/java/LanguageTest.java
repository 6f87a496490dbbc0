import java.io.IOException;
import java.lang.reflect.Constructor;
import java.lang.reflect.Field;
import java.lang.reflect.Method;
import java.lang.reflect.Modifier;
import java.nio.file.Files;
import java.nio.file.Path;
import java.util.Arrays;
import java.util.HashSet;
import java.util.Map;
import java.util.Set;
import java.util.TreeMap;
import java.util.TreeSet;
import java.util.regex.Matcher;
import java.util.regex.Pattern;

/** The public face, and what of LANGUAGE.md can be seen without reading the program. */
final class LanguageTest {
    private static final Check CHECK = new Check("LanguageTest");
    private static final String FACE = "agrees(int)int at(int,int)int cell(int,int,int)int clear()int cost(int,int,int,int)int "
        + "cutAt(int)int find(int,int)int kind(int)int lay()int line()int more(int,int)int numbers(int)int "
        + "set(int,int,int)int size(int)int sum(int)long told(int)int type(long,int)int value(int,int)int";
    private static final String[] BANNED = {"throw", "throws", "try", "catch", "finally", "synchronized", "assert", "import",
        "package", "protected", "volatile", "native", "this\\(", "instanceof", "->", "::", "@", "System", "Object", "var",
        "Exact", "super", "extends", "/ ", "%"};

    private LanguageTest() {
    }

    public static void main(String[] args) throws IOException {
        face();
        classesInside();
        text();
        madeInConstructors();
        callsOfCalls();
        CHECK.end();
    }

    private static void face() {
        Class<?> type = TableFinder.class;
        CHECK.due("public final", type.getModifiers() & (Modifier.PUBLIC | Modifier.FINAL), Modifier.PUBLIC | Modifier.FINAL);
        Set<String> names = new TreeSet<>();
        Set<String> hidden = new HashSet<>();
        for (Method method : type.getDeclaredMethods()) {
            if (method.isSynthetic()) {
                continue;
            }
            String form = method.getName() + Arrays.toString(method.getParameterTypes()).replaceAll("[ \\[\\]]", "");
            form = method.getName() + "(" + form.substring(method.getName().length()) + ")" + method.getReturnType();
            if (Modifier.isPublic(method.getModifiers())) {
                names.add(form);
            } else {
                CHECK.due(form + " is private", Modifier.isPrivate(method.getModifiers()) ? 1 : 0, 1);
                hidden.add(method.getName());
            }
        }
        CHECK.due("public methods", String.join(" ", names), FACE);
        for (String name : names) {
            CHECK.due("a private " + name, hidden.contains(name.substring(0, name.indexOf('('))) ? 1 : 0, 0);
        }
        Set<String> constants = new TreeSet<>();
        for (Field field : type.getDeclaredFields()) {
            if (Modifier.isPublic(field.getModifiers())) {
                constants.add(field.getType() + " " + field.getName());
            } else {
                CHECK.due(field.getName() + " is private", Modifier.isPrivate(field.getModifiers()) ? 1 : 0, 1);
            }
        }
        CHECK.due("public constants", constants.toString(), "[int BAD, int FULL, int NOT]");
        Constructor<?>[] constructors = type.getDeclaredConstructors();
        CHECK.due("constructors", constructors.length, 1);
        CHECK.due("its parameters", constructors[0].getParameterCount(), 0);
    }

    /** Rules 1, 2, 5 and 11: what may stand in the classes, and how many of all. */
    private static void classesInside() {
        Class<?>[] inside = TableFinder.class.getDeclaredClasses();
        CHECK.due("classes: too many", inside.length + 1 > 12 ? 1 : 0, 0);
        membersOf(TableFinder.class);
        for (Class<?> type : inside) {
            int modifiers = type.getModifiers();
            boolean hidden = !Modifier.isPublic(modifiers) && !Modifier.isProtected(modifiers);
            CHECK.due(type + " is static and hidden", Modifier.isStatic(modifiers) && hidden ? 1 : 0, 1);
            CHECK.due(type + " has classes inside", type.getDeclaredClasses().length, 0);
            membersOf(type);
            for (Method method : type.getDeclaredMethods()) {
                boolean ofTheFace = FACE.contains(" " + method.getName() + "(") || FACE.startsWith(method.getName() + "(");
                CHECK.due(method + " has a name of the face", ofTheFace ? 1 : 0, 0);
            }
        }
    }

    private static void membersOf(Class<?> type) {
        int fields = 0;
        for (Field field : type.getDeclaredFields()) {
            boolean constant = Modifier.isStatic(field.getModifiers());
            fields += constant ? 0 : 1;
            CHECK.due(field + ": static and not final", constant && !Modifier.isFinal(field.getModifiers()) ? 1 : 0, 0);
            CHECK.due(field + ": a static array", constant && field.getType().isArray() ? 1 : 0, 0);
        }
        CHECK.due(type + ": too many fields", fields > 20 ? 1 : 0, 0);
        for (Method method : type.getDeclaredMethods()) {
            CHECK.due(method + ": too many parameters", method.getParameterCount() > 7 ? 1 : 0, 0);
        }
    }

    private static String code() throws IOException {
        String text = Files.readString(Path.of("src/main/java/TableFinder.java"));
        return text.replaceAll("(?s)/\\*.*?\\*/", "").replaceAll("//[^\n]*", "");
    }

    /** Rules 8 and 11: no recursion, and calls at most eight deep. Methods of one name are taken for one. */
    private static void callsOfCalls() throws IOException {
        String code = code();
        Map<String, Set<String>> calls = new TreeMap<>();
        Matcher heads = Pattern.compile("(?m)^( {4}| {8})(?:[\\w\\[\\]]+ )*(\\w+)\\([^()]*\\) \\{$").matcher(code);
        while (heads.find()) {
            String body = code.substring(heads.end(), code.indexOf("\n" + heads.group(1) + "}\n", heads.end()));
            Set<String> called = calls.computeIfAbsent(heads.group(2), name -> new TreeSet<>());
            Matcher names = Pattern.compile("\\b(\\w+)\\(").matcher(body);
            while (names.find()) {
                called.add(names.group(1));
            }
        }
        CHECK.due("methods were seen", calls.size() > 60 ? 1 : 0, 1);
        for (String name : calls.keySet()) {
            CHECK.due("depth of " + name + " is above eight", depth(calls, name, 1) > 8 ? 1 : 0, 0);
        }
    }

    private static int depth(Map<String, Set<String>> calls, String name, int above) {
        int deepest = above;
        for (String called : calls.getOrDefault(name, Set.of())) {
            boolean own = calls.containsKey(called) && above <= 8;
            deepest = own ? Math.max(deepest, depth(calls, called, above + 1)) : deepest;
        }
        return deepest;
    }

    private static void text() throws IOException {
        String text = Files.readString(Path.of("src/main/java/TableFinder.java"));
        for (int i = 0; i < text.length(); i++) {
            char c = text.charAt(i);
            CHECK.due("sign " + (int) c + " at " + i, c == '\n' || c >= 32 && c < 127 ? 1 : 0, 1);
        }
        String code = code();
        for (String banned : BANNED) {
            String edge = Character.isLetter(banned.charAt(0)) && banned.matches("\\w+") ? "\\b" : "";
            Matcher matcher = Pattern.compile(edge + banned + edge).matcher(code);
            CHECK.due("use of " + banned, matcher.find() ? 1 : 0, 0);
        }
        // An array's element stands behind a test of its index in pick() and put() alone.
        Matcher elements = Pattern.compile("\\w\\[[^\\]]").matcher(code.replaceAll("new int\\[", ""));
        int count = 0;
        while (elements.find()) {
            count++;
        }
        CHECK.due("places with an array's element", count, 2);
        methodLengths(code);
        libraryIn(code);
    }

    /** Rules 3, 4 and 10: numbers and arrays of them are all that the program works with. */
    private static void libraryIn(String code) {
        Matcher uses = Pattern.compile("\\b([A-Z]\\w*)\\.(\\w+)").matcher(code);
        while (uses.find()) {
            CHECK.due("use of " + uses.group(), uses.group().matches("Math[.](min|max)") ? 1 : 0, 1);
        }
        for (String word : new String[] {"double", "float", "String", "List", "Integer", "Iterator", "enum", "record", "interface"}) {
            CHECK.due("use of " + word, code.matches("(?s).*\\b" + word + "\\b.*") ? 1 : 0, 0);
        }
        CHECK.due("texts", code.indexOf('"'), -1);
    }

    private static void methodLengths(String code) {
        int start = 0;
        String[] lines = code.split("\n");
        for (int i = 0; i < lines.length; i++) {
            if (lines[i].matches("( {4}| {8})[a-z].*\\) \\{")) {
                start = i;
            } else if (lines[i].matches("( {4}| {8})\\}")) {
                CHECK.due("too long: " + lines[start], i - start > 60 && lines[start].contains("(") ? 1 : 0, 0);
            }
        }
    }

    /** All calls of a run live in one room, so that no call may make anything. */
    private static void madeInConstructors() throws IOException {
        String text = Files.readString(Path.of("src/main/java/TableFinder.java"));
        Matcher made = Pattern.compile("\\n( *)[^\\n]*\\bnew \\w+[\\[(]").matcher(text);
        while (made.find()) {
            String before = text.substring(0, made.start());
            String head = before.substring(before.lastIndexOf(") {") < 0 ? 0 : before.lastIndexOf("\n", before.lastIndexOf(") {")) + 1);
            CHECK.due("made outside a constructor: " + made.group().strip(), head.strip().matches("(?s)(public )?[A-Z]\\w+\\(.*") ? 1 : 0, 1);
        }
    }
}
