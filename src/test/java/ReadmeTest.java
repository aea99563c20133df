import java.lang.reflect.Method;
import java.lang.reflect.Modifier;
import java.nio.file.Files;
import java.nio.file.Path;
import java.util.ArrayList;
import java.util.List;
import java.util.Set;
import java.util.TreeSet;
import java.util.regex.Matcher;
import java.util.regex.Pattern;

/** Holds README.md against the class: the calls of its example, its list of calls, its table of refusals. */
public final class ReadmeTest {
    private static final Pattern CALL = Pattern.compile("x\\.(\\w+)\\(([^)]*)\\);\\s*// (-?\\d+)\\b.*");
    private static final Pattern FEEDS = Pattern.compile("for \\(char letter : \"([^\"]*)\"\\.toCharArray\\(\\)\\) x\\.feed\\(letter\\);");
    private static final String MADE = "FerriedInWords x = new FerriedInWords();";
    /** In the order of the refusals that are tried. */
    private static final String[] ROWS = {"`BAD` -2", "`STATE` -3", "`FULL` -4", "-11", "-12", "-13", "-14", "-100 less a place",
        "-1000", "`NO` -4611686018427387904"};

    public static void main(String[] args) throws Exception {
        String page = Files.readString(Path.of(System.getProperty("readme", "README.md")));
        example(page);
        groups(page);
        changes(page);
        refusals(page);
        saysHow(page);
        tests(page);
        Due.end();
    }

    private static String between(String page, String from, String to) {
        int begin = page.indexOf(from);
        int end = begin < 0 ? -1 : page.indexOf(to, begin + from.length());
        Due.same("what stands between " + from + " and " + to, begin < 0 || end < 0 ? "nothing" : "", "");
        return begin < 0 || end < 0 ? "" : page.substring(begin + from.length(), end);
    }

    private static void example(String page) throws Exception {
        Due.promise("README: each line here is a call and what it answers");
        FerriedInWords x = null;
        int calls = 0;
        for (String line : between(page, "```java\n", "```").split("\n")) {
            Matcher call = CALL.matcher(line);
            Matcher feeds = FEEDS.matcher(line);
            if (line.isEmpty()) continue;
            if (line.equals(MADE)) {
                x = new FerriedInWords();
            } else if (feeds.matches()) {
                Due.feeds(x, feeds.group(1));
            } else if (call.matches()) {
                Due.due(line, called(x, call.group(1), call.group(2)), Long.parseLong(call.group(3)));
                calls++;
            } else {
                Due.same("a line", line, "a call and its answer");
            }
        }
        Due.due("many calls", calls > 20 ? 1 : 0, 1);
    }

    private static long called(FerriedInWords x, String name, String with) throws Exception {
        List<Integer> numbers = new ArrayList<>();
        for (String n : with.isEmpty() ? new String[0] : with.split(", ")) {
            numbers.add(n.startsWith("0b") ? Integer.parseInt(n.substring(2), 2) : Integer.parseInt(n));
        }
        for (Method m : face()) {
            if (m.getName().equals(name) && m.getParameterCount() == numbers.size()) {
                return ((Number) m.invoke(x, numbers.toArray())).longValue();
            }
        }
        throw new IllegalArgumentException("no call " + name + " of " + numbers);
    }

    private static List<Method> face() {
        List<Method> all = new ArrayList<>();
        for (Method m : FerriedInWords.class.getDeclaredMethods()) if (Modifier.isPublic(m.getModifiers())) all.add(m);
        return all;
    }

    private static Set<String> names() {
        Set<String> all = new TreeSet<>();
        for (Method m : face()) all.add(m.getName());
        return all;
    }

    private static Set<String> quoted(String text) {
        Set<String> all = new TreeSet<>();
        Matcher m = Pattern.compile("`(\\w+)`").matcher(text);
        while (m.find()) all.add(m.group(1));
        return all;
    }

    private static void groups(String page) {
        Due.promise("README: the calls, as the document groups them");
        Due.same("the calls", quoted(between(page, "| group | calls |", "Only ")).toString(), names().toString());
    }

    /** All calls once, in an object where each finds something to change; those that changed it are the named ones. */
    private static void changes(String page) throws Exception {
        Due.promise("README: only these change anything");
        Set<String> changing = new TreeSet<>();
        for (Method m : face()) {
            FerriedInWords x = busy();
            m.invoke(x, wellFor(m.getName(), m.getParameterCount()));
            if (!state(x).equals(state(busy()))) changing.add(m.getName());
        }
        Due.same("what changes", quoted(between(page, "\nOnly ", " change anything")).toString(), changing.toString());
    }

    private static FerriedInWords busy() {
        FerriedInWords x = new FerriedInWords();
        x.person(Due.TELLER, 3, 1000, 5);
        x.person(Due.LOVER, 4, 100, 6);
        x.image();
        x.brings(77);
        Due.reads(x, "keeps 1;tires 2;learns 3;");
        Due.feeds(x, "keeps");
        x.set(0, 0, 7);
        Due.lists(x, 0, Due.INTS, 0, 1, 2, 3, 0, 0, 0, 0);
        return x;
    }

    private static Object[] wellFor(String name, int many) {
        Object[] numbers = new Object[many];
        int[] well = switch (name) {
            case "sheet" -> new int[] {1, 2, 3};
            case "cell" -> new int[] {0, 0, 9};
            case "copy" -> new int[] {0, 0, 0, 1, 3};
            case "crew" -> new int[] {0, 2, 4, 1};
            case "row" -> new int[] {1, 1, 1};
            default -> new int[] {1, 1, 1, 1, 1};
        };
        for (int i = 0; i < many; i++) numbers[i] = well[i];
        return numbers;
    }

    /** What can be asked, then what the sheets hold, then what an image that is kept brings back. */
    private static String state(FerriedInWords x) {
        StringBuilder list = new StringBuilder(Due.all(x));
        StringBuilder sheets = new StringBuilder();
        for (int sheet = 0; sheet < 4; sheet++) {
            for (int sort = 0; sort < 3; sort++) sheets.append(x.crew(sheet, sort, 0, 0)).append(' ');
        }
        x.back();
        list.append(" back ").append(Due.all(x)).append(" sheets ").append(sheets);
        for (int sheet = 0; sheet < 2; sheet++) {
            for (int i = 0; i < 8; i++) list.append(Due.held(x, sheet, sheet == 0 ? Due.INTS : Due.SHORTS, i, 3)).append(' ');
        }
        return list.toString();
    }

    /** Each row of the table names those calls that can answer so, and no other. */
    private static void refusals(String page) {
        Due.promise("README: the table of refusals");
        String table = between(page, "| answer | why | by |\n", "\n\n");
        String[] lines = table.split("\n");
        Due.due("rows", lines.length - 1, ROWS.length);
        for (int i = 0; i < ROWS.length && i + 1 < lines.length; i++) {
            String[] columns = lines[i + 1].split(" \\| ");
            Due.same("row " + i, columns[0], "| " + ROWS[i]);
            Due.same("by whom, row " + i, byWhom(columns.length > 2 ? columns[2] : "", i).toString(), answering(i).toString());
        }
    }

    private static Set<String> byWhom(String column, int row) {
        Set<String> named = quoted(column);
        if (row != 0) return named;
        Set<String> rest = names();
        rest.removeAll(named);
        rest.removeAll(Set.of("text", "day", "image", "back"));
        return rest;
    }

    private static Set<String> answering(int row) {
        Set<String> all = new TreeSet<>();
        for (Method m : face()) {
            if (answers(m, new FerriedInWords(), row) || answers(m, full(), row)) all.add(m.getName());
        }
        return all;
    }

    private static FerriedInWords full() {
        FerriedInWords x = new FerriedInWords();
        for (int i = 0; i < 8; i++) {
            x.person(Due.FATHER, 0, 0, 0);
            x.brings(1);
            Due.reads(x, "keeps 1;tires 1;learns 1;");
        }
        Due.feeds(x, " ".repeat(160));
        x.set(0, 0, 999);
        x.sheet(0, Due.BYTES, 4);
        x.sheet(1, Due.SHORTS, 4);
        return x;
    }

    /** Whether a call, made with all that is tried as each of its numbers, ever answers so. */
    private static boolean answers(Method m, FerriedInWords x, int row) {
        long[] due = {-2, -3, -4, -11, -12, -13, -14, -100, -1000, FerriedInWords.NO};
        int[] tried = {-1, 0, 1, 2, 4, 41};
        Object[] with = new Object[m.getParameterCount()];
        int rounds = (int) Math.pow(tried.length, with.length);
        for (int r = 0; r < rounds; r++) {
            int rest = r;
            for (int i = 0; i < with.length; i++) {
                with[i] = tried[rest % tried.length];
                rest /= tried.length;
            }
            try {
                if (((Number) m.invoke(x, with)).longValue() == due[row]) return true;
            } catch (ReflectiveOperationException e) {
                Due.same(m.getName(), e.toString(), "no exception");
            }
        }
        return false;
    }

    private static void saysHow(String page) {
        Due.promise("README: how an object is made, calls are made, refusals answered, for how many calls, how tests are run");
        for (String part : List.of("### Making an object", "### Making calls", "### How refusals are answered",
                "### For how many calls", "at most 512 calls", "## How to run the tests", "bash .ci/run")) {
            Due.due(part, page.contains(part) ? 1 : 0, 1);
        }
    }

    private static void tests(String page) {
        Due.promise("README: the tests");
        String list = page.substring(Math.max(0, page.indexOf("## How to run the tests")));
        String[] files = Path.of("src/test/java").toFile().list();
        for (String file : files == null ? new String[0] : files) {
            String name = file.replace(".java", "");
            Due.due("names " + name, list.contains("`" + name + "`") ? 1 : 0, 1);
        }
    }
}
