import java.util.Arrays;

/** Long runs of drawn calls, each answered by the class and by the Model; the runs are the same every time. */
public final class ModelTest {
    private static final int RUNS = Integer.getInteger("runs", 240);
    private static final int CALLS = 512;
    private static final String[] NAMES = {"words", "memory", "number", "day", "parts", "said"};
    private static final String[] PIECES = {"keeps", "tires", "learns", "or", "and", "not", "(", ")", ";", "+", "-", "*",
        "<", "=", "0", "7", "9999", "10000", "word", " ", "\n", "A", ">", "words", "memory", "number", "day", "parts", "said"};

    private static int wrong = 0;
    private static long state;

    private FerriedInWords x;
    private Model m;
    private int calls;

    /** Numbers from below up to but without a bound. */
    private static int draw(int bound) {
        state = state * 6364136223846793005L + 1442695040888963407L;
        return (int) ((state >>> 33) % bound);
    }

    private static int between(int low, int high) {
        return low + draw(high - low + 1);
    }

    /** Mostly low .. high; now and then just outside, or far. */
    private static int near(int low, int high) {
        int r = draw(40);
        if (r == 0) return low - 1;
        if (r == 1) return high + 1;
        if (r == 2) return high;
        if (r == 3) return low;
        if (r == 4 && draw(3) == 0) return draw(2) == 0 ? Integer.MIN_VALUE : Integer.MAX_VALUE;
        return between(low, high);
    }

    private static int set() {
        int r = draw(12);
        if (r == 0) return 1023;
        if (r == 1) return 0;
        if (r < 4) return 1 << draw(10);
        if (r == 4) return 1023 & ~(1 << draw(10));
        if (r == 5) return near(0, 1023);
        return draw(1024);
    }

    private boolean same(String call, long got, long due) {
        calls++;
        if (got == due) return true;
        wrong++;
        System.out.println(call + " as call " + calls + " answered " + got + ", due is " + due);
        return false;
    }

    private static String call(String name, int... with) {
        String list = Arrays.toString(with);
        return name + "(" + list.substring(1, list.length() - 1) + ")";
    }

    public static void main(String[] args) {
        for (int run = 1; run <= RUNS && wrong < 10; run++) {
            state = run * 7919L;
            if (!new ModelTest().run()) System.out.println("in run " + run);
        }
        System.out.println(wrong == 0 ? "the class answers as the model" : "the class does not answer as the model");
        if (wrong != 0) System.exit(1);
    }

    private boolean run() {
        x = new FerriedInWords();
        m = new Model();
        int kind = draw(3);
        if (!begin()) return false;
        while (calls < CALLS) {
            if (!(kind == 0 ? anyCall() : kind == 1 && draw(3) > 0 ? changing() : anyCall())) return false;
            if (draw(10) == 0 && calls < CALLS - 60 && !looks()) return false;
        }
        return true;
    }

    private boolean begin() {
        int people = draw(6);
        for (int i = 0; i < people; i++) if (!person()) return false;
        return draw(2) == 0 || feeds(text());
    }

    private boolean looks() {
        for (int what = 0; what < 6; what++) if (!same(call("count", what), x.count(what), m.count(what))) return false;
        for (int i = 0; i < m.count(0); i++) {
            for (int what = 1; what < 6; what++) if (!same(call("told", i, what), x.told(i, what), m.told(i, what))) return false;
        }
        for (int i = 0; i <= m.count(1); i++) if (!same(call("told", i, 6), x.told(i, 6), m.told(i, 6))) return false;
        return same(call("told", 0, 8), x.told(0, 8), m.told(0, 8));
    }

    private boolean person() {
        int k = near(0, 5), n = near(0, 9), w = draw(4) == 0 ? 1023 : set(), y = draw(2) == 0 ? draw(12) : near(0, 99);
        return same(call("person", k, n, w, y), x.person(k, n, w, y), m.person(k, n, w, y));
    }

    private boolean feeds(String text) {
        for (int i = 0; i < text.length() && calls < CALLS - 1; i++) {
            int c = text.charAt(i);
            if (!same(call("feed", c), x.feed(c), m.feed(c))) return false;
        }
        if (!same("text of '" + text + "'", x.text(), m.text())) return false;
        int t = near(0, m.count(3) - 1);
        return same(call("force", t), x.force(t), m.force(t));
    }

    private static String text() {
        String whole = "keeps " + sum(3) + blank() + ";tires " + sum(2) + ";" + blank() + "learns " + sum(2) + ";";
        int spoils = draw(3) == 0 ? 1 : 0;
        for (int i = 0; i < spoils; i++) {
            int at = draw(whole.length() + 1);
            int to = Math.min(whole.length(), at + draw(3));
            whole = whole.substring(0, at) + PIECES[draw(PIECES.length)] + whole.substring(to);
        }
        return draw(20) == 0 ? whole.substring(0, draw(whole.length())) : whole;
    }

    private static String blank() {
        return draw(4) == 0 ? " \n" : "";
    }

    private static String sum(int depth) {
        int r = draw(depth <= 0 ? 3 : 12);
        if (r < 2) return NAMES[draw(6)];
        if (r == 2) return "" + (draw(5) == 0 ? draw(10000) : draw(12));
        String a = sum(depth - 1);
        if (r == 3) return "-" + a;
        if (r == 4) return "not " + a;
        if (r == 5) return "(" + a + ")";
        String[] signs = {" or ", " and ", "<", "=", "+", "-", "*"};
        return a + signs[draw(7)] + sum(depth - 1);
    }

    private boolean changing() {
        switch (draw(5)) {
            case 0: return same("day()", x.day(), m.day());
            case 1: {
                int thing = draw(20) == 0 ? near(1, 1023) : between(1, 1023);
                return same(call("brings", thing), x.brings(thing), m.brings(thing));
            }
            case 2: {
                int n = near(0, 20), what = asked();
                return same(call("run", n, what), x.run(n, what), m.run(n, what));
            }
            case 3: {
                int what = near(0, 4), of = near(0, 4), v = what == 0 ? near(0, 999) : what == 1 ? near(0, 9) : what == 2 ? set() : near(0, 99);
                return same(call("set", what, of, v), x.set(what, of, v), m.set(what, of, v));
            }
            default: return asks();
        }
    }

    private static int asked() {
        int r = draw(3);
        return r == 0 ? near(0, 1) : r == 1 ? near(10, 14) : near(20, 24);
    }

    private boolean asks() {
        int i = near(0, 4), thing = set(), what = near(0, 3);
        return same(call("asks", i, thing, what), x.asks(i, thing, what), m.asks(i, thing, what));
    }

    private boolean anyCall() {
        switch (draw(22)) {
            case 0: return draw(3) > 0 || person();
            case 1: return draw(6) > 0 || calls > CALLS - 200 || feeds(text());
            case 2: return draw(4) > 0 ? same("back()", x.back(), m.back()) : same("image()", x.image(), m.image());
            case 3: {
                int i = near(0, 4), what = near(0, 8);
                return same(call("told", i, what), x.told(i, what), m.told(i, what));
            }
            case 4: case 5: return best();
            case 6: {
                int s = near(0, 3), i = near(0, 4);
                return same(call("film", s, i), x.film(s, i), m.film(s, i));
            }
            case 7: case 8: case 9: return tells();
            case 10: {
                int seed = draw(2) == 0 ? draw(1000) : near(0, 0), n = near(0, 40);
                return same(call("drawn", seed, n), x.drawn(seed, n), m.drawn(seed, n));
            }
            case 11: {
                int seed = draw(9) == 0 ? Integer.MAX_VALUE - draw(9) : draw(1000), n = near(1, 40), k = near(0, 10), part = near(0, 1);
                return same(call("chance", seed, n, k, part), x.chance(seed, n, k, part), m.chance(seed, n, k, part));
            }
            case 12: case 13: case 14: case 15: return host();
            case 16: {
                int s = near(0, 3), thing = set(), what = near(0, 3);
                return same(call("over", s, thing, what), x.over(s, thing, what), m.over(s, thing, what));
            }
            case 17: {
                int part = near(0, 1);
                return same(call("mean", part), x.mean(part), m.mean(part));
            }
            default: return changing();
        }
    }

    private boolean best() {
        int thing = set(), what = near(0, 1), n = near(1, 3);
        switch (draw(8)) {
            case 0: return same(call("learn", thing, what), x.learn(thing, what), m.learn(thing, what));
            case 1: case 2: return same(call("from", thing, what), x.from(thing, what), m.from(thing, what));
            case 3: case 4: return same(call("row", thing, n, what), x.row(thing, n, what), m.row(thing, n, what));
            default: return same(call("fro", thing, what), x.fro(thing, what), m.fro(thing, what));
        }
    }

    /** Mostly of a film that was just made, cut short or spoilt. */
    private boolean tells() {
        int s = between(0, 3), i = near(0, 4), n = draw(8) == 0 ? near(0, 40) : draw(11), other = (s + 1) % 4;
        if (!same(call("film", s, i), x.film(s, i), m.film(s, i))) return false;
        if (!same(call("sheet", other, 1, n), x.sheet(other, 1, n), m.sheet(other, 1, n))) return false;
        int few = Math.min(n, 10);
        if (!same(call("copy", s, 0, other, 0, few), x.copy(s, 0, other, 0, few), m.copy(s, 0, other, 0, few))) return false;
        if (draw(4) == 0) {
            int at = near(0, 9), v = set();
            if (!same(call("cell", other, at, v), x.cell(other, at, v), m.cell(other, at, v))) return false;
        }
        for (int k = 0; k < 3; k++) {
            int what = near(0, 8), which = draw(9) == 0 ? near(0, 3) : other;
            if (!same(call("tells", which, i, what), x.tells(which, i, what), m.tells(which, i, what))) return false;
        }
        return true;
    }

    private boolean host() {
        int s = near(0, 3), o = near(0, 3), i = draw(3) == 0 ? near(0, 39) : draw(6), j = draw(6), n = draw(3) == 0 ? near(0, 40) : draw(6);
        switch (draw(6)) {
            case 0: {
                int sort = draw(3) == 0 ? near(-1, 2) : draw(2);
                return same(call("sheet", s, sort, n), x.sheet(s, sort, n), m.sheet(s, sort, n));
            }
            case 1: case 2: {
                int v = draw(3) == 0 ? draw(1 << 20) - (1 << 19) : draw(6);
                return same(call("cell", s, i, v), x.cell(s, i, v), m.cell(s, i, v));
            }
            case 3: return same(call("copy", s, i, o, j, n), x.copy(s, i, o, j, n), m.copy(s, i, o, j, n));
            case 4: {
                int sort = near(0, 2), few = near(0, 5);
                return same(call("crew", s, sort, i, few), x.crew(s, sort, i, few), m.crew(s, sort, i, few));
            }
            default: {
                int k = near(0, 5), one = near(0, 4);
                return same(call("taken", one, k), x.taken(one, k), m.taken(one, k));
            }
        }
    }
}
