import java.lang.management.ManagementFactory;
import java.lang.reflect.Constructor;
import java.lang.reflect.Field;
import java.lang.reflect.Method;
import java.lang.reflect.Modifier;
import java.nio.file.Files;
import java.nio.file.Path;
import java.util.ArrayList;
import java.util.List;
import java.util.Set;
import java.util.TreeSet;
import java.util.regex.Matcher;
import java.util.regex.Pattern;

/** What LANGUAGE.md asks of the class, as far as a look at it tells, and that its calls make no objects. */
public final class LanguageTest {
    private static final String[] FACE = {
        "int set(int,int,int)", "int person(int,int,int,int)", "int told(int,int)", "int brings(int)", "int asks(int,int,int)",
        "int feed(int)", "int text()", "int force(int)", "int over(int,int,int)", "int day()", "int run(int,int)",
        "int fro(int,int)", "int row(int,int,int)", "int learn(int,int)", "int from(int,int)", "long mean(int)",
        "int tells(int,int,int)", "int film(int,int)", "int drawn(int,int)", "long chance(int,int,int,int)", "int image()",
        "int back()", "int count(int)", "int sheet(int,int,int)", "int cell(int,int,int)", "int copy(int,int,int,int,int)",
        "int crew(int,int,int,int)", "int taken(int,int)"};
    private static final String[] FORBIDDEN = {"import ", "package ", "->", "::", "\\btry\\b", "\\bcatch\\b", "\\bfinally\\b",
        "\\bassert\\b", "\\bsynchronized\\b", "\\bthrow\\b", "\\bnew [a-z]+\\[[^\\]]*\\]\\[", "\\bstatic \\{", "\\bvar\\b", "@", "Exact\\b",
        "\\b(Object|Random|Thread|Arrays|List|ArrayList|Long|Character|Class|Enum)\\b"};

    public static void main(String[] args) throws Exception {
        Due.promise("the language");
        face();
        nestedClasses();
        source(Files.readString(Path.of(System.getProperty("source", "src/main/java/FerriedInWords.java"))));
        makesNothing();
        Due.end();
    }

    private static void face() {
        Class<?> c = FerriedInWords.class;
        Due.due("public and final", c.getModifiers() & (Modifier.PUBLIC | Modifier.FINAL), Modifier.PUBLIC | Modifier.FINAL);
        Set<String> due = new TreeSet<>(List.of(FACE));
        Set<String> names = new TreeSet<>();
        for (String f : FACE) names.add(f.substring(f.indexOf(' ') + 1, f.indexOf('(')));
        Set<String> open = new TreeSet<>();
        for (Method m : c.getDeclaredMethods()) {
            if (m.isSynthetic()) continue;
            StringBuilder face = new StringBuilder(m.getReturnType().getName() + " " + m.getName() + "(");
            for (Class<?> p : m.getParameterTypes()) face.append(face.charAt(face.length() - 1) == '(' ? "" : ",").append(p.getName());
            face.append(")");
            if (!Modifier.isPrivate(m.getModifiers())) open.add(face.toString());
            else Due.same("the name of a private method", names.contains(m.getName()) ? m.getName() : "", "");
        }
        Due.same("the methods", open.toString(), due.toString());
        Set<String> constants = new TreeSet<>();
        for (Field f : c.getDeclaredFields()) if (!Modifier.isPrivate(f.getModifiers())) constants.add(f.getName());
        Due.same("the constants", constants.toString(), "[BAD, FULL, NO, NONE, STATE]");
        Due.due("NONE", FerriedInWords.NONE, -1);
        Due.due("BAD", FerriedInWords.BAD, -2);
        Due.due("STATE", FerriedInWords.STATE, -3);
        Due.due("FULL", FerriedInWords.FULL, -4);
        Due.due("NO", FerriedInWords.NO, -(1L << 62));
        int constructors = 0;
        for (Constructor<?> k : c.getDeclaredConstructors()) constructors += Modifier.isPublic(k.getModifiers()) ? 1 : 100;
        Due.due("constructors", constructors, 1);
    }

    private static void nestedClasses() {
        List<Class<?>> all = new ArrayList<>(List.of(FerriedInWords.class.getDeclaredClasses()));
        Due.due("some twelve classes", all.size() + 1 <= 12 ? 1 : 0, 1);
        for (Class<?> c : all) {
            Due.due("private or package-visible, " + c, c.getModifiers() & (Modifier.PUBLIC | Modifier.PROTECTED), 0);
            Due.due("static, " + c, c.getModifiers() & Modifier.STATIC, Modifier.STATIC);
        }
        all.add(FerriedInWords.class);
        for (Class<?> c : all) {
            int fields = 0;
            for (Field f : c.getDeclaredFields()) {
                boolean isStatic = Modifier.isStatic(f.getModifiers());
                if (!isStatic) fields++;
                else Due.due("static and final, " + f, f.getModifiers() & Modifier.FINAL, Modifier.FINAL);
            }
            Due.due("some twenty fields, " + c, fields <= 20 ? 1 : 0, 1);
            for (Method m : c.getDeclaredMethods()) Due.due("seven parameters, " + m, m.getParameterCount() <= 7 ? 1 : 0, 1);
        }
    }

    private static void source(String whole) {
        for (int i = 0; i < whole.length(); i++) if (whole.charAt(i) > 126) Due.due("a sign of the source", whole.charAt(i), 'a');
        String code = whole.replaceAll("(?s)/\\*.*?\\*/", "").replaceAll("//.*", "");
        for (String f : FORBIDDEN) {
            Matcher m = Pattern.compile(f).matcher(code);
            Due.same("what stands there of " + f, m.find() ? m.group() : "", "");
        }
        String[] lines = whole.split("\n");
        int begin = 0;
        for (int i = 0; i < lines.length; i++) {
            if (lines[i].matches(" {4,8}[A-Za-z].*\\) \\{")) begin = i;
            if (lines[i].matches(" {4,8}\\}")) Due.due("sixty lines up to line " + (i + 1), Math.max(60, i - begin + 1), 60);
        }
    }

    /** Rows are made in the constructor: what a call makes would be counted for all calls of a run. */
    private static void makesNothing() {
        FerriedInWords x = new FerriedInWords();
        calls(x);
        com.sun.management.ThreadMXBean bean = (com.sun.management.ThreadMXBean) ManagementFactory.getThreadMXBean();
        long thread = Thread.currentThread().getId();
        bean.getThreadAllocatedBytes(thread);
        long was = bean.getThreadAllocatedBytes(thread);
        for (int i = 0; i < 5; i++) calls(x);
        long made = bean.getThreadAllocatedBytes(thread) - was;
        Due.due("bytes made by calls (none or next to none)", Math.max(made, 2000), 2000);
    }

    private static void calls(FerriedInWords x) {
        x.image();
        for (int kind = 1; kind < 6; kind++) x.person(kind, 5, 1000, 3);
        for (int thing = 1; thing < 9; thing++) x.brings(thing * 100);
        for (int i = 0; i < 160; i++) x.feed(i < 5 ? "keeps".charAt(i) : '(');
        x.text();
        x.force(0);
        x.asks(1, 1023, 0);
        x.day();
        x.run(20, 0);
        x.fro(77, 0);
        x.row(77, 3, 0);
        x.learn(77, 0);
        x.from(77, 0);
        x.mean(0);
        x.film(0, 1);
        for (int what = 0; what < 9; what++) x.tells(0, 1, what);
        x.drawn(1, 40);
        x.chance(1, 40, 5, 0);
        x.sheet(1, 1, 40);
        x.copy(0, 0, 1, 0, 10);
        x.cell(1, 0, 1);
        x.over(1, 77, 0);
        x.crew(1, 1, 0, 5);
        x.taken(0, 0);
        x.set(0, 0, 5);
        x.told(0, 5);
        x.count(0);
        x.back();
    }
}
