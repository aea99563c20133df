import java.util.ArrayList;
import java.util.Arrays;
import java.util.HashMap;
import java.util.LinkedHashSet;
import java.util.List;
import java.util.Map;
import java.util.TreeSet;
import java.util.function.IntUnaryOperator;

/**
 * The document once more, written from its words in sets and lists instead of bits, to hold the class against.
 * It is slow and makes objects as it likes.
 */
final class Model {
    static final int NONE = -1, BAD = -2, STATE = -3, FULL = -4;
    static final long NO = -4611686018427387904L;

    /** One of the people. */
    private record One(int kind, int number, TreeSet<Integer> words, int memory, int said) {
        One with(int what, int v) {
            return switch (what) {
                case 1 -> new One(kind, v, words, memory, said);
                case 2 -> new One(kind, number, parts(v), memory, said);
                case 3 -> new One(kind, number, words, v, said);
                case 4 -> new One(kind, number, words, memory, v);
                default -> new One(v, number, words, memory, said);
            };
        }
    }

    /** All that an image keeps; copies share nothing that changes. */
    private static final class Shore {
        final List<One> people = new ArrayList<>();
        final List<TreeSet<Integer>> jetty = new ArrayList<>();
        int day, come, rule;

        Shore copy() {
            Shore c = new Shore();
            c.people.addAll(people);
            c.jetty.addAll(jetty);
            c.day = day;
            c.come = come;
            c.rule = rule;
            return c;
        }
    }

    /** An E that is read, asked by the names' values. */
    private interface Sum {
        int of(Map<String, Integer> names);
    }

    private record Text(Sum keeps, Sum tires, Sum learns) {
    }

    /** A fault's place, thrown through the reading. */
    private static final class Fault extends RuntimeException {
        final int place;

        Fault(int place) {
            super(null, null, false, false);
            this.place = place;
        }
    }

    private Shore now = new Shore();
    private Shore image;
    private final List<Text> texts = new ArrayList<>();
    private StringBuilder tape = new StringBuilder();
    private final Object[] sheets = new Object[4];

    Model() {
        texts.add(new Text(n -> n.get("memory"), n -> 0, n -> 0));
    }

    // ---- sets of parts

    private static TreeSet<Integer> parts(int bits) {
        TreeSet<Integer> set = new TreeSet<>();
        for (int p = 0; p < 10; p++) if ((bits & 1 << p) != 0) set.add(p);
        return set;
    }

    private static int bits(TreeSet<Integer> set) {
        int b = 0;
        for (int p : set) b += 1 << p;
        return b;
    }

    private static TreeSet<Integer> both(TreeSet<Integer> a, TreeSet<Integer> b) {
        TreeSet<Integer> c = new TreeSet<>(a);
        c.retainAll(b);
        return c;
    }

    private static TreeSet<Integer> less(TreeSet<Integer> a, TreeSet<Integer> b) {
        TreeSet<Integer> c = new TreeSet<>(a);
        c.removeAll(b);
        return c;
    }

    private static int off(TreeSet<Integer> a, TreeSet<Integer> b) {
        return less(a, b).size() + less(b, a).size();
    }

    private static boolean isSet(int bits) {
        return 0 <= bits && bits <= 1023;
    }

    // ---- the kinds

    private int v(String part, Shore s, One p, TreeSet<Integer> thing) {
        Map<String, Integer> names = new HashMap<>();
        names.put("words", p.words.size());
        names.put("memory", p.memory);
        names.put("number", p.number);
        names.put("day", s.day);
        names.put("parts", thing.size());
        names.put("said", p.said);
        Text t = texts.get(s.rule);
        Sum e = part.equals("keeps") ? t.keeps : part.equals("tires") ? t.tires : t.learns;
        int v = e.of(names);
        return v < 0 ? 0 : v > 99 ? 99 : v;
    }

    private int keeps(Shore s, One p, TreeSet<Integer> thing) {
        int v = v("keeps", s, p, thing);
        int k = switch (p.kind) {
            case 0 -> v;
            case 1, 3 -> v + 1;
            case 2 -> v * 2;
            case 4 -> s.day % 4 == 0 ? 10 : v * 2;
            default -> v / 2;
        };
        return k > 10 ? 10 : k;
    }

    private TreeSet<Integer> tells(Shore s, One p, TreeSet<Integer> thing) {
        TreeSet<Integer> told = new TreeSet<>();
        int room = keeps(s, p, thing);
        for (int part : thing) {
            if (!p.words.contains(part)) continue;
            if (told.size() < room) told.add(part);
        }
        if (p.kind == 1 || p.kind == 3) told.add(p.number);
        if (p.kind == 3 && !told.remove(9 - p.number)) told.add(9 - p.number);
        if (p.kind == 2 || p.kind == 4) {
            for (int part : new ArrayList<>(told)) if (thing.contains(part + 1)) told.add(part + 1);
        }
        if (p.kind == 4 && !told.isEmpty()) {
            int first = told.first();
            for (int part : p.words) if (part < first) told.add(part);
        }
        if (p.kind == 5) told.removeIf(part -> part > 4);
        return told;
    }

    private int tires(Shore s, One p, TreeSet<Integer> thing) {
        int v = v("tires", s, p, thing);
        return switch (p.kind) {
            case 0 -> v;
            case 1 -> 0;
            case 2 -> v + 1;
            case 3 -> p.number;
            case 4 -> (v + 1) / 2;
            default -> p.said % 2 == 0 ? v : 0;
        };
    }

    private boolean learns(Shore s, One p, TreeSet<Integer> thing) {
        boolean yes = v("learns", s, p, thing) != 0;
        return switch (p.kind) {
            case 0, 3 -> yes;
            case 2, 4 -> yes || thing.size() == 1;
            default -> false;
        };
    }

    private TreeSet<Integer> toldByAll(Shore s, TreeSet<Integer> thing) {
        for (One p : s.people) thing = tells(s, p, thing);
        return thing;
    }

    private int passDay(Shore s) {
        int comes = NONE;
        if (!s.jetty.isEmpty()) {
            TreeSet<Integer> thing = s.jetty.remove(0);
            for (int i = 0; i < s.people.size(); i++) {
                One p = s.people.get(i);
                TreeSet<Integer> words = new TreeSet<>(p.words);
                TreeSet<Integer> lacking = less(thing, words);
                if (learns(s, p, thing) && !lacking.isEmpty()) words.add(lacking.first());
                int memory = Math.max(0, p.memory - tires(s, p, thing));
                TreeSet<Integer> told = tells(s, p, thing);
                s.people.set(i, new One(p.kind, p.number, words, memory, Math.min(99, p.said + 1)));
                thing = told;
            }
            comes = bits(thing);
            s.come = Math.min(999, s.come + 1);
        }
        s.day++;
        return comes;
    }

    // ---- people, the jetty

    private boolean isThere(int one) {
        return 0 <= one && one < now.people.size();
    }

    int set(int what, int of, int v) {
        int[] most = {999, 9, 1023, 99, 99};
        if (what < 0 || what > 4 || what > 0 && !isThere(of) || v < 0 || v > most[what]) return BAD;
        int was = told(of, what);
        if (what == 0) now.day = v;
        else now.people.set(of, now.people.get(of).with(what, v));
        return was;
    }

    int person(int kind, int number, int words, int memory) {
        if (kind < 0 || kind > 5 || number < 0 || number > 9 || !isSet(words) || memory < 0 || memory > 99) return BAD;
        if (now.people.size() == 5) return FULL;
        now.people.add(new One(kind, number, parts(words), memory, 0));
        return now.people.size() - 1;
    }

    int told(int of, int what) {
        if (what == 0) return now.day;
        if (what == 6) return 0 <= of && of < now.jetty.size() ? bits(now.jetty.get(of)) : -1000;
        if (what == 7) return now.jetty.size();
        if (what == 8) return now.come;
        if (what < 0 || what > 8 || !isThere(of)) return -1000;
        One p = now.people.get(of);
        return switch (what) {
            case 1 -> p.number;
            case 2 -> bits(p.words);
            case 3 -> p.memory;
            case 4 -> p.said;
            default -> p.kind;
        };
    }

    int brings(int thing) {
        if (!isSet(thing) || thing == 0) return BAD;
        if (now.jetty.size() == 8) return FULL;
        now.jetty.add(parts(thing));
        return now.jetty.size();
    }

    int asks(int one, int thing, int what) {
        if (!isThere(one) || !isSet(thing) || what < 0 || what > 3) return BAD;
        One p = now.people.get(one);
        TreeSet<Integer> t = parts(thing);
        return switch (what) {
            case 0 -> bits(tells(now, p, t));
            case 1 -> keeps(now, p, t);
            case 2 -> tires(now, p, t);
            default -> learns(now, p, t) ? 1 : 0;
        };
    }

    // ---- texts: the tape is read letter by letter, an E by the rank of its signs

    int feed(int letter) {
        if (letter < 0 || letter > 255) return BAD;
        if (tape.length() == 160) return FULL;
        tape.append((char) letter);
        return tape.length();
    }

    int text() {
        if (texts.size() == 6) return FULL;
        String all = tape.toString();
        tape = new StringBuilder();
        try {
            texts.add(new Reading(all).text());
            return texts.size() - 1;
        } catch (Fault f) {
            return -100 - f.place;
        }
    }

    int force(int text) {
        if (text < 0 || text >= texts.size()) return BAD;
        int was = now.rule;
        now.rule = text;
        return was;
    }

    private static final class Reading {
        private static final List<String> NAMES = List.of("words", "memory", "number", "day", "parts", "said");
        private static final List<List<String>> RANKS =
            List.of(List.of("or"), List.of("and"), List.of("<", "="), List.of("+", "-"), List.of("*"));
        private final String all;
        private int at;

        Reading(String all) {
            this.all = all;
        }

        private boolean is(int i, String letters) {
            return i < all.length() && letters.indexOf(all.charAt(i)) >= 0;
        }

        /** The token that comes next, without taking it; empty at the end. */
        private String next() {
            while (is(at, " \n")) at++;
            for (String run : List.of("abcdefghijklmnopqrstuvwxyz", "0123456789")) {
                int to = at;
                while (is(to, run)) to++;
                if (to > at) return all.substring(at, to);
            }
            return at < all.length() ? all.substring(at, at + 1) : "";
        }

        private void take(String wanted) {
            if (!next().equals(wanted)) throw new Fault(at);
            at += wanted.length();
        }

        Text text() {
            take("keeps");
            Sum keeps = rank(0, 0);
            take(";");
            take("tires");
            Sum tires = rank(0, 0);
            take(";");
            take("learns");
            Sum learns = rank(0, 0);
            take(";");
            take("");
            return new Text(keeps, tires, learns);
        }

        private Sum rank(int rank, int open) {
            if (rank == RANKS.size()) return one(open);
            if (rank == 2 && next().equals("not")) {
                opens(open, "not");
                Sum of = rank(2, open + 1);
                return n -> of.of(n) == 0 ? 1 : 0;
            }
            Sum a = rank(rank + 1, open);
            while (!next().isEmpty() && RANKS.get(rank).contains(next())) {
                String sign = next();
                take(sign);
                a = joined(sign, a, rank(rank + 1, open));
                if (rank == 2) break;
            }
            return a;
        }

        private void opens(int open, String what) {
            if (open == 5) throw new Fault(at);
            take(what);
        }

        private Sum one(int open) {
            String token = next();
            if (token.equals("-")) {
                opens(open, token);
                Sum of = one(open + 1);
                return n -> -of.of(n);
            }
            if (token.equals("(")) {
                opens(open, token);
                Sum of = rank(0, open + 1);
                take(")");
                return of;
            }
            if (token.matches("[0-9]{1,4}")) {
                take(token);
                int number = Integer.parseInt(token);
                return n -> number;
            }
            if (!NAMES.contains(token)) throw new Fault(at);
            take(token);
            return n -> n.get(token);
        }

        private static Sum joined(String sign, Sum a, Sum b) {
            return switch (sign) {
                case "or" -> n -> a.of(n) != 0 || b.of(n) != 0 ? 1 : 0;
                case "and" -> n -> a.of(n) != 0 && b.of(n) != 0 ? 1 : 0;
                case "<" -> n -> a.of(n) < b.of(n) ? 1 : 0;
                case "=" -> n -> a.of(n) == b.of(n) ? 1 : 0;
                case "+" -> n -> a.of(n) + b.of(n);
                case "-" -> n -> a.of(n) - b.of(n);
                default -> n -> a.of(n) * b.of(n);
            };
        }
    }

    // ---- tellings, days

    int over(int sheet, int thing, int what) {
        if (!isSheet(sheet) || !isSet(thing) || what < 0 || what > 3) return BAD;
        if (sheets[sheet] == null) return -11;
        for (int who : numbers(sheet)) if (!isThere(who)) return BAD;
        TreeSet<Integer> was = parts(thing);
        TreeSet<Integer> comes = was;
        for (int who : numbers(sheet)) comes = tells(now, now.people.get(who), comes);
        return switch (what) {
            case 0 -> bits(comes);
            case 1 -> off(was, comes);
            case 2 -> bits(less(was, comes));
            default -> bits(less(comes, was));
        };
    }

    int day() {
        return now.day == 999 ? STATE : passDay(now);
    }

    int run(int n, int what) {
        boolean asked = what == 0 || what == 1
            || 10 <= what && what < 10 + now.people.size() || 20 <= what && what < 20 + now.people.size();
        if (n < 0 || n > 20 || !asked) return -1000;
        Shore s = now.copy();
        List<Integer> came = new ArrayList<>();
        for (int i = 0; i < n; i++) {
            int c = passDay(s);
            if (c != NONE) came.add(c);
        }
        if (what == 0) return came.isEmpty() ? NONE : came.get(came.size() - 1);
        if (what == 1) return came.size();
        return what < 20 ? bits(s.people.get(what - 10).words) : s.people.get(what - 20).memory;
    }

    // ---- what would be best

    int fro(int thing, int what) {
        if (!isSet(thing) || what < 0 || what > 1) return BAD;
        LinkedHashSet<Integer> ahead = new LinkedHashSet<>();
        int is = thing;
        for (int times = 0; times <= 60; times++) {
            if (!ahead.add(is)) return what == 0 ? times : is;
            is = bits(toldByAll(now, parts(is)));
        }
        return NONE;
    }

    int row(int thing, int n, int what) {
        if (!isSet(thing) || n < 1 || n > 3 || what < 0 || what > 1) return BAD;
        int best = NONE, least = 99;
        int most = n == 1 ? 9 : n == 2 ? 99 : 999;
        for (int digits = 1; digits <= most; digits++) {
            String row = Integer.toString(digits);
            if (row.chars().distinct().count() != row.length()) continue;
            if (!row.chars().allMatch(d -> isThere(d - '1'))) continue;
            TreeSet<Integer> comes = parts(thing);
            for (char d : row.toCharArray()) comes = tells(now, now.people.get(d - '1'), comes);
            if (off(comes, parts(thing)) < least) {
                least = off(comes, parts(thing));
                best = digits;
            }
        }
        return best == NONE ? NONE : what == 0 ? best : least;
    }

    int learn(int thing, int what) {
        if (!isSet(thing) || what < 0 || what > 1) return BAD;
        for (int size = 0; size <= 10; size++) {
            for (int set = 0; set < 1024; set++) {
                if (parts(set).size() != size) continue;
                Shore s = now.copy();
                int more = set;
                s.people.replaceAll(p -> p.with(2, bits(p.words) | more));
                if (bits(toldByAll(s, parts(thing))) == thing) return what == 0 ? set : size;
            }
        }
        return NONE;
    }

    int from(int thing, int what) {
        if (!isSet(thing) || what < 0 || what > 1) return BAD;
        TreeSet<Integer> all = new TreeSet<>();
        for (int other = 0; other < 1024; other++) if (bits(toldByAll(now, parts(other))) == thing) all.add(other);
        return what == 0 ? all.size() : all.isEmpty() ? NONE : all.first();
    }

    long mean(int part) {
        if (part < 0 || part > 1 || now.people.isEmpty()) return NO;
        int sum = 0;
        for (One p : now.people) sum += p.words.size();
        return lowest(sum, now.people.size(), part);
    }

    private static long lowest(int above, int below, int part) {
        for (int d = below; d > 1; d--) if (above % d == 0 && below % d == 0) return (part == 0 ? above : below) / d;
        return part == 0 ? above : below;
    }

    // ---- what was told of one

    private boolean so(Shore s, One p, int[] sheet) {
        return firstOtherwise(s, p, sheet) == NONE;
    }

    private int firstOtherwise(Shore s, One p, int[] sheet) {
        for (int i = 0; i < sheet.length; i++) if (bits(tells(s, p, parts(1 << i))) != sheet[i]) return i;
        return NONE;
    }

    private static List<Integer> all(int below, java.util.function.IntPredicate so) {
        List<Integer> list = new ArrayList<>();
        for (int i = 0; i < below; i++) if (so.test(i)) list.add(i);
        return list;
    }

    private static int asBits(List<Integer> list) {
        return bits(new TreeSet<>(list));
    }

    private static int least(List<Integer> list) {
        return list.isEmpty() ? NONE : list.get(0);
    }

    int tells(int sheet, int one, int what) {
        if (!isSheet(sheet) || !isThere(one) || what < 0 || what > 8) return BAD;
        if (sheets[sheet] == null) return -11;
        int[] said = numbers(sheet);
        if (said.length > 10) return BAD;
        One p = now.people.get(one);
        return switch (what) {
            case 0 -> firstOtherwise(now, p, said);
            case 1 -> asBits(all(6, k -> so(now, p.with(5, k), said)));
            case 2 -> asBits(all(10, n -> so(now, p.with(1, n), said)));
            case 3 -> all(100, m -> so(now, p.with(3, m), said)).size();
            case 4 -> least(all(100, m -> so(now, p.with(3, m), said)));
            case 5 -> all(1024, w -> so(now, p.with(2, w), said)).size();
            case 6 -> least(all(1024, w -> so(now, p.with(2, w), said)));
            case 7 -> asBits(all(texts.size(), t -> {
                Shore s = now.copy();
                s.rule = t;
                return so(s, p, said);
            }));
            default -> asBits(all(now.people.size(), i -> so(now, now.people.get(i), said)));
        };
    }

    int film(int sheet, int one) {
        if (!isSheet(sheet) || !isThere(one)) return BAD;
        short[] film = new short[10];
        int whole = 0;
        for (int i = 0; i < 10; i++) {
            film[i] = (short) bits(tells(now, now.people.get(one), parts(1 << i)));
            if (film[i] == 1 << i) whole++;
        }
        sheets[sheet] = film;
        return whole;
    }

    int drawn(int seed, int n) {
        if (n < 0 || n > 40) return BAD;
        IntUnaryOperator next = z -> (int) (z * 1103515245L + 12345L);
        int together = 0;
        int z = seed;
        for (int i = 0; i < n; i++) {
            z = next.applyAsInt(z);
            TreeSet<Integer> thing = parts((int) ((z & 0xFFFFFFFFL) / 512 % 1024));
            together += off(thing, toldByAll(now, thing));
        }
        return together;
    }

    long chance(int seed, int m, int k, int part) {
        if (m < 1 || m > 40 || k < 0 || k > 10 || part < 0 || part > 1) return NO;
        int many = 0;
        for (int i = 0; i < m; i++) if (drawn(seed + i, 1) <= k) many++;
        return lowest(many, m, part);
    }

    int image() {
        image = now.copy();
        return image.people.size();
    }

    int back() {
        if (image == null) return STATE;
        now = image.copy();
        return now.people.size();
    }

    int count(int what) {
        return switch (what) {
            case 0 -> now.people.size();
            case 1 -> now.jetty.size();
            case 2 -> now.day;
            case 3 -> texts.size();
            case 4 -> tape.length();
            case 5 -> now.rule;
            default -> BAD;
        };
    }

    // ---- the host: Java's own rows, and Java's own refusals

    private static boolean isSheet(int sheet) {
        return 0 <= sheet && sheet <= 3;
    }

    private int[] numbers(int sheet) {
        Object s = sheets[sheet];
        int[] list = new int[java.lang.reflect.Array.getLength(s)];
        for (int i = 0; i < list.length; i++) list[i] = java.lang.reflect.Array.getInt(s, i);
        return list;
    }

    int sheet(int sheet, int sort, int n) {
        if (!isSheet(sheet) || sort < -1 || sort > 2 || sort >= 0 && n > 40) return BAD;
        try {
            sheets[sheet] = sort < 0 ? null : sort == 0 ? new byte[n] : sort == 1 ? new short[n] : (Object) new int[n];
            return 1;
        } catch (NegativeArraySizeException e) {
            return -14;
        }
    }

    int cell(int sheet, int i, int v) {
        if (!isSheet(sheet)) return BAD;
        try {
            Object s = sheets[sheet];
            if (s instanceof byte[] b) b[i] = (byte) v;
            else if (s instanceof short[] h) h[i] = (short) v;
            else ((int[]) s)[i] = v;
            return 1;
        } catch (NullPointerException e) {
            return -11;
        } catch (ArrayIndexOutOfBoundsException e) {
            return -12;
        }
    }

    @SuppressWarnings("SuspiciousSystemArraycopy")
    int copy(int sheet, int i, int other, int j, int n) {
        if (!isSheet(sheet) || !isSheet(other)) return BAD;
        try {
            System.arraycopy(sheets[sheet], i, sheets[other], j, n);
            return n;
        } catch (NullPointerException e) {
            return -11;
        } catch (ArrayStoreException e) {
            return -13;
        } catch (ArrayIndexOutOfBoundsException e) {
            return -12;
        }
    }

    int crew(int sheet, int sort, int from, int n) {
        if (!isSheet(sheet) || sort < 0 || sort > 2 || n < 0 || n > 5) return BAD;
        Class<?> wanted = List.of(byte[].class, short[].class, int[].class).get(sort);
        try {
            wanted.cast(sheets[sheet]);
            int[] list = numbers(sheet);
            int many = 0;
            for (int i = 0; i < n; i++) {
                int[] p = new int[4];
                for (int k = 0; k < 4; k++) p[k] = list[from + 4 * i + k];
                if (person(p[0], p[1], p[2], p[3]) >= 0) many++;
            }
            return many;
        } catch (ClassCastException e) {
            return -13;
        } catch (NullPointerException e) {
            return -11;
        } catch (ArrayIndexOutOfBoundsException e) {
            return -12;
        }
    }

    int taken(int one, int k) {
        if (k < 0 || k > 5) return BAD;
        if (!isThere(one)) return -11;
        int[][] under = {{0}, {0, 1}, {0, 2}, {0, 1, 3}, {0, 2, 4}, {0, 5}};
        One p = now.people.get(one);
        return Arrays.stream(under[p.kind]).anyMatch(u -> u == k) ? p.number : -13;
    }
}
