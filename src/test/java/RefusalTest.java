/**
 * Each refused call: what it answers, which refusal comes first where several would do, and that it changes nothing.
 * A call is made on an object in one of three states; behind it, all that the object holds is told as without the call.
 */
public final class RefusalTest {
    private static final String SHORT = "keeps1;tires2;learns3;";
    private static final int[] NOT_SHEETS = {-1, 4, Due.MAX, Due.MIN};
    private static final int[] NOT_SETS = {-1, 1024, Due.MAX, Due.MIN};
    private static final int[] FAR = {Due.MAX, Due.MIN};
    /** What is looked at behind a call, each on an object of its own, as looking at some of it changes it. */
    private static final int STATE = 0, TEXTS = 1, TAPE = 2, IMAGE = 3, SHEETS = 4, VIEWS = 8;

    private interface Made {
        FerriedInWords object();
    }

    private interface Call {
        long on(FerriedInWords x);
    }

    private static Made made;
    private static final String[] was = new String[VIEWS];

    public static void main(String[] args) {
        in(RefusalTest::busy);
        people();
        texts();
        tellings();
        best();
        toldBack();
        sheetsAndCells();
        copies();
        crews();
        taken();
        in(RefusalTest::full);
        whereAllIsFull();
        in(FerriedInWords::new);
        whereNobodyIs();
        sheetsAreSeen();
        Due.end();
    }

    /** Three people, two things, three texts, some of a tape, an image; sheet 2 is missing, sheet 3 has 40 numbers. */
    private static FerriedInWords busy() {
        FerriedInWords x = new FerriedInWords();
        x.person(Due.TELLER, 3, 0b1010110111, 4);
        x.person(Due.LIAR, 6, 700, 12);
        x.brings(77);
        x.brings(5);
        x.set(0, 0, 40);
        Due.rules(x, "memory+1", "2", "said");
        x.day();
        x.image();
        x.person(Due.PLAIN, 9, 31, 99);
        x.brings(1023);
        x.brings(9);
        x.set(4, 0, 7);
        Due.rules(x, "number", "said", "day");
        x.day();
        Due.feeds(x, "keeps 1;tires ");
        x.film(0, 0);
        Due.lists(x, 1, Due.BYTES, 0, 1, 2, 2, 99);
        x.sheet(2, Due.INTS, 3);
        x.sheet(2, -1, 0);
        x.sheet(3, Due.INTS, 40);
        for (int i = 0; i < 40; i++) x.cell(3, i, 7 * i + 1);
        return x;
    }

    /** Five people, eight things, six texts, 160 bytes, an image, no day more. */
    private static FerriedInWords full() {
        FerriedInWords x = new FerriedInWords();
        x.person(Due.LOVER, 1, 1000, 2);
        x.brings(3);
        x.image();
        for (int kind = 0; kind < 4; kind++) x.person(kind, 9, 1023, 99);
        for (int i = 1; i < 8; i++) x.brings(1023 - i);
        for (int i = 1; i < 6; i++) Due.reads(x, SHORT);
        x.force(5);
        x.set(0, 0, 999);
        Due.feeds(x, " ".repeat(160 - SHORT.length()) + SHORT);
        x.sheet(0, Due.INTS, 20);
        Due.lists(x, 1, Due.BYTES, 0, 1, 2, 3, 4);
        return x;
    }

    private static void in(Made m) {
        made = m;
        for (int view = 0; view < VIEWS; view++) was[view] = view(made.object(), view);
    }

    private static String view(FerriedInWords x, int view) {
        switch (view) {
            case STATE: return Due.all(x);
            case TEXTS: return texts(x);
            case TAPE: return x.text() + " " + x.count(3) + " " + x.feed(32);
            case IMAGE: return x.back() + " " + Due.all(x);
            default: return sheet(x, view - SHEETS);
        }
    }

    private static String texts(FerriedInWords x) {
        StringBuilder list = new StringBuilder();
        for (int text = 0; text < x.count(3); text++) {
            list.append(x.force(text)).append(": ");
            for (int one = 0; one < x.count(0); one++) {
                for (int what = 1; what < 4; what++) list.append(x.asks(one, 5, what)).append(' ');
            }
        }
        return list.toString();
    }

    private static String sheet(FerriedInWords x, int sheet) {
        if (x.copy(sheet, 0, sheet, 0, 0) == -11) return "missing";
        int sort = 0;
        while (sort < 3 && x.crew(sheet, sort, 0, 0) != 0) sort++;
        int size = 0;
        while (x.copy(sheet, size, sheet, size, 1) == 1) size++;
        StringBuilder list = new StringBuilder("sort " + sort + ":");
        x.back();
        for (int i = 0; i < size; i++) list.append(' ').append(Due.held(x, sheet, sort, i, (sheet + 1) % 4));
        return list.toString();
    }

    /** What is looked at tells sheets that differ apart: else nothing would be found to have changed. */
    private static void sheetsAreSeen() {
        Due.promise("looking at sheets");
        FerriedInWords x = busy();
        Due.same("sheet 1", sheet(x, 1), "sort 0: 0 1 2 2 99");
        Due.same("sheet 2", sheet(busy(), 2), "missing");
        x.sheet(1, Due.SHORTS, 0);
        Due.same("sheet 1 now", sheet(x, 1), "sort 1:");
        Due.same("sheet 3", sheet(busy(), 3).substring(0, 17), "sort 2: 1 8 15 22");
    }

    private static void refused(String call, long due, Call c) {
        for (int view = 0; view < VIEWS; view++) {
            FerriedInWords x = made.object();
            long got = c.on(x);
            if (view == 0) Due.due(call, got, due);
            Due.same("behind " + call + ", view " + view, view(x, view), was[view]);
        }
    }

    private static int[] with(int[] far, int... near) {
        int[] all = java.util.Arrays.copyOf(near, near.length + far.length);
        System.arraycopy(far, 0, all, near.length, far.length);
        return all;
    }

    private static int[] range(int first, int last) {
        return java.util.stream.IntStream.rangeClosed(first, last).toArray();
    }

    private static void people() {
        Due.promise("2: BAD");
        int[] most = {999, 9, 1023, 99, 99};
        for (int what : range(0, 4)) {
            for (int v : with(FAR, -1, most[what] + 1)) refused("set(" + what + ", 0, " + v + ")", -2, x -> x.set(what, 0, v));
            if (what > 0) for (int of : with(FAR, -1, 3)) refused("set(" + what + ", " + of + ", 1)", -2, x -> x.set(what, of, 1));
        }
        for (int what : with(FAR, -1, 5)) refused("set(" + what + ", 0, 1)", -2, x -> x.set(what, 0, 1));
        Due.promise("3: BAD");
        for (int kind : with(FAR, -1, 6)) refused("person of kind " + kind, -2, x -> x.person(kind, 0, 0, 0));
        for (int number : with(FAR, -1, 10)) refused("person of number " + number, -2, x -> x.person(0, number, 0, 0));
        for (int words : NOT_SETS) refused("person of words " + words, -2, x -> x.person(0, 0, words, 0));
        for (int memory : with(FAR, -1, 100)) refused("person of memory " + memory, -2, x -> x.person(0, 0, 0, memory));
        Due.promise("4: -1000: none such");
        for (int what : range(1, 5)) {
            for (int of : with(FAR, -1, 3)) refused("told(" + of + ", " + what + ")", -1000, x -> x.told(of, what));
        }
        for (int place : with(FAR, -1, 2, 8)) refused("told(" + place + ", 6)", -1000, x -> x.told(place, 6));
        for (int what : with(FAR, -1, 9)) refused("told(0, " + what + ")", -1000, x -> x.told(0, what));
        Due.promise("5: BAD");
        for (int thing : with(NOT_SETS, 0)) refused("brings(" + thing + ")", -2, x -> x.brings(thing));
        Due.promise("6: BAD");
        for (int one : with(FAR, -1, 3)) refused("asks of " + one, -2, x -> x.asks(one, 5, 0));
        for (int thing : NOT_SETS) refused("asks of thing " + thing, -2, x -> x.asks(0, thing, 0));
        for (int what : with(FAR, -1, 4)) refused("asks what " + what, -2, x -> x.asks(0, 5, what));
    }

    private static void texts() {
        Due.promise("7: BAD");
        for (int letter : with(FAR, -1, 256)) refused("feed(" + letter + ")", -2, x -> x.feed(letter));
        Due.promise("9: BAD");
        for (int text : with(FAR, -1, 3)) refused("force(" + text + ")", -2, x -> x.force(text));
    }

    private static void tellings() {
        Due.promise("10: BAD: SHEET, thing, what");
        for (int sheet : NOT_SHEETS) refused("over by " + sheet, -2, x -> x.over(sheet, 5, 0));
        for (int thing : NOT_SETS) refused("over of " + thing, -2, x -> x.over(1, thing, 0));
        for (int what : with(FAR, -1, 4)) refused("over what " + what, -2, x -> x.over(1, 5, what));
        Due.promise("10: BAD: SHEET, thing, what; -11");
        refused("over by 2", -11, x -> x.over(2, 5, 0));
        for (int thing : NOT_SETS) refused("over by 2 of " + thing, -2, x -> x.over(2, thing, 0));
        for (int what : with(FAR, -1, 4)) refused("over by 2 what " + what, -2, x -> x.over(2, 5, what));
        Due.promise("10: BAD: it tells who isn't there");
        for (int what : range(0, 3)) {
            refused("over by 1", -2, x -> x.over(1, 5, what));
            refused("over by 3", -2, x -> x.over(3, 5, what));
        }
        Due.promise("12: -1000: n, what");
        for (int n : with(FAR, -1, 21)) refused("run(" + n + ", 0)", -1000, x -> x.run(n, 0));
        for (int n : with(FAR, -1, 21)) refused("run(" + n + ", 10)", -1000, x -> x.run(n, 10));
        for (int what : with(FAR, -1, 2, 9, 13, 14, 15, 19, 23, 24, 25, 30)) refused("run(20, " + what + ")", -1000, x -> x.run(20, what));
    }

    private static void best() {
        for (int thing : NOT_SETS) {
            Due.promise("13: BAD");
            refused("fro of " + thing, -2, x -> x.fro(thing, 0));
            Due.promise("14: BAD");
            refused("row of " + thing, -2, x -> x.row(thing, 3, 0));
            Due.promise("15: BAD");
            refused("learn of " + thing, -2, x -> x.learn(thing, 0));
            Due.promise("16: BAD");
            refused("from of " + thing, -2, x -> x.from(thing, 0));
        }
        for (int what : with(FAR, -1, 2)) {
            Due.promise("13: BAD");
            refused("fro what " + what, -2, x -> x.fro(5, what));
            Due.promise("14: BAD");
            refused("row what " + what, -2, x -> x.row(5, 3, what));
            Due.promise("15: BAD");
            refused("learn what " + what, -2, x -> x.learn(5, what));
            Due.promise("16: BAD");
            refused("from what " + what, -2, x -> x.from(5, what));
            Due.promise("17: NO: part");
            refused("mean(" + what + ")", FerriedInWords.NO, x -> x.mean(what));
        }
        Due.promise("14: BAD");
        for (int n : with(FAR, -1, 0, 4)) refused("row of n " + n, -2, x -> x.row(5, n, 0));
    }

    private static void toldBack() {
        Due.promise("18: BAD: SHEET, none such, what; -11; BAD: it tells more than 10");
        for (int sheet : NOT_SHEETS) refused("tells by " + sheet, -2, x -> x.tells(sheet, 0, 0));
        for (int sheet : range(0, 3)) {
            for (int one : with(FAR, -1, 3)) refused("tells by " + sheet + " of " + one, -2, x -> x.tells(sheet, one, 0));
            for (int what : with(FAR, -1, 9)) refused("tells by " + sheet + ", what " + what, -2, x -> x.tells(sheet, 0, what));
        }
        for (int what : range(0, 8)) {
            refused("tells by 2, what " + what, -11, x -> x.tells(2, 0, what));
            refused("tells by 3, what " + what, -2, x -> x.tells(3, 0, what));
        }
        Due.promise("19: BAD");
        for (int sheet : NOT_SHEETS) refused("film on " + sheet, -2, x -> x.film(sheet, 0));
        for (int sheet : range(0, 3)) {
            for (int one : with(FAR, -1, 3)) refused("film on " + sheet + " of " + one, -2, x -> x.film(sheet, one));
        }
        Due.promise("20: BAD: n");
        for (int n : with(FAR, -1, 41)) refused("drawn of " + n, -2, x -> x.drawn(5, n));
        Due.promise("21: NO: m, k, part");
        for (int m : with(FAR, -1, 0, 41)) refused("chance of m " + m, FerriedInWords.NO, x -> x.chance(5, m, 0, 0));
        for (int k : with(FAR, -1, 11)) refused("chance of k " + k, FerriedInWords.NO, x -> x.chance(5, 1, k, 1));
        for (int part : with(FAR, -1, 2)) refused("chance, part " + part, FerriedInWords.NO, x -> x.chance(5, 1, 0, part));
        Due.promise("24: BAD");
        for (int what : with(FAR, -1, 6)) refused("count(" + what + ")", -2, x -> x.count(what));
    }

    private static void sheetsAndCells() {
        Due.promise("25: BAD: no such SHEET, sort; n above 40; -14");
        for (int sheet : NOT_SHEETS) {
            for (int n : new int[] {1, -1, 41}) refused("sheet(" + sheet + ", 0, " + n + ")", -2, x -> x.sheet(sheet, 0, n));
            refused("sheet(" + sheet + ", -1, 0)", -2, x -> x.sheet(sheet, -1, 0));
        }
        for (int sheet : range(0, 3)) {
            for (int sort : with(FAR, -2, 3)) {
                for (int n : new int[] {1, -1, 41}) refused("sheet(" + sheet + ", " + sort + ", " + n + ")", -2, x -> x.sheet(sheet, sort, n));
            }
            for (int sort : range(0, 2)) {
                for (int n : new int[] {41, Due.MAX}) refused("sheet(" + sheet + ", " + sort + ", " + n + ")", -2, x -> x.sheet(sheet, sort, n));
                for (int n : new int[] {-1, Due.MIN}) refused("sheet(" + sheet + ", " + sort + ", " + n + ")", -14, x -> x.sheet(sheet, sort, n));
            }
        }
        Due.promise("26: BAD: no such SHEET; -11; -12");
        for (int sheet : NOT_SHEETS) for (int i : new int[] {0, -1}) refused("cell of " + sheet, -2, x -> x.cell(sheet, i, 1));
        for (int i : with(FAR, -1, 0, 40)) refused("cell " + i + " of 2", -11, x -> x.cell(2, i, 1));
        int[] sizes = {10, 5, 0, 40};
        for (int sheet : new int[] {0, 1, 3}) {
            for (int i : with(FAR, -1, sizes[sheet])) refused("cell " + i + " of " + sheet, -12, x -> x.cell(sheet, i, 1));
        }
    }

    private static void copies() {
        Due.promise("27: BAD: no such SHEET; -11; -13; -12");
        for (int sheet : NOT_SHEETS) {
            for (int other : range(0, 3)) {
                refused("copy of " + sheet + " to " + other, -2, x -> x.copy(sheet, 0, other, 0, 1));
                refused("copy of " + other + " to " + sheet, -2, x -> x.copy(other, 0, sheet, 0, 1));
                refused("copy of " + sheet + " to " + other + ", outside", -2, x -> x.copy(sheet, -1, other, -1, -1));
            }
        }
        for (int other : range(0, 3)) {
            for (int i : new int[] {0, -1, 41}) {
                refused("copy of 2 to " + other, -11, x -> x.copy(2, i, other, 0, 1));
                refused("copy of " + other + " to 2", -11, x -> x.copy(other, 0, 2, i, 1));
                refused("copy of " + other + " to 2, below 0", -11, x -> x.copy(other, 0, 2, i, -1));
            }
        }
        for (int[] unlike : new int[][] {{0, 1}, {1, 0}, {0, 3}, {3, 0}, {1, 3}, {3, 1}}) {
            String call = "copy of " + unlike[0] + " to " + unlike[1];
            for (int n : new int[] {0, 1, -1, 41}) refused(call + ", n " + n, -13, x -> x.copy(unlike[0], 0, unlike[1], 0, n));
            refused(call + ", outside", -13, x -> x.copy(unlike[0], -1, unlike[1], 41, 1));
        }
        int[][] outside = {{-1, 0, 1}, {0, -1, 1}, {0, 0, -1}, {0, 0, 6}, {4, 0, 2}, {0, 4, 2}, {5, 0, 1}, {0, 5, 1}, {6, 0, 0}, {0, 6, 0}, {-1, 0, 0},
            {0, -1, 0}, {Due.MAX, 0, 1}, {0, Due.MAX, 1}, {1, 1, Due.MAX}, {Due.MIN, 0, 1}, {0, Due.MIN, 1}, {0, 0, Due.MIN}, {Due.MAX, 0, Due.MAX}};
        for (int[] o : outside) {
            refused("copy of 1 to 1 by " + o[0] + ", " + o[1] + ", " + o[2], -12, x -> x.copy(1, o[0], 1, o[1], o[2]));
        }
    }

    private static void crews() {
        Due.promise("28: BAD: no such SHEET, sort, n; -13; -11; -12");
        for (int sheet : NOT_SHEETS) refused("crew by " + sheet, -2, x -> x.crew(sheet, 0, 0, 1));
        for (int sheet : range(0, 3)) {
            for (int sort : with(FAR, -1, 3)) refused("crew by " + sheet + " of sort " + sort, -2, x -> x.crew(sheet, sort, -1, 1));
            for (int n : with(FAR, -1, 6)) {
                for (int sort : range(0, 2)) {
                    refused("crew by " + sheet + " of sort " + sort + ", n " + n, -2, x -> x.crew(sheet, sort, 0, n));
                }
            }
        }
        int[] sorts = {1, 0, -1, 2};
        for (int sort : range(0, 2)) {
            for (int n : new int[] {0, 5}) {
                for (int from : new int[] {0, -1, 41}) {
                    refused("crew by 2 of sort " + sort, -11, x -> x.crew(2, sort, from, n));
                    for (int sheet : new int[] {0, 1, 3}) {
                        if (sorts[sheet] == sort) continue;
                        refused("crew by " + sheet + " of sort " + sort, -13, x -> x.crew(sheet, sort, from, n));
                    }
                }
            }
        }
        for (int from : with(FAR, -1, -4, 37, 40, 41)) refused("crew by 3 from " + from, -12, x -> x.crew(3, 2, from, 1));
        for (int from : with(FAR, -1, -4, 2, 5, 6)) refused("crew by 1 from " + from, -12, x -> x.crew(1, 0, from, 1));
    }

    private static void taken() {
        Due.promise("29: BAD: k; -11: none such; -13");
        for (int k : with(FAR, -1, 6)) {
            for (int one : new int[] {0, 3, -1}) refused("taken(" + one + ", " + k + ")", -2, x -> x.taken(one, k));
        }
        for (int one : with(FAR, -1, 3)) for (int k : new int[] {0, 5}) refused("taken(" + one + ", " + k + ")", -11, x -> x.taken(one, k));
        for (int k : range(1, 5)) {
            refused("taken(0, " + k + ")", -13, x -> x.taken(0, k));
            if (k != 1 && k != 3) refused("taken(1, " + k + ")", -13, x -> x.taken(1, k));
            if (k != 5) refused("taken(2, " + k + ")", -13, x -> x.taken(2, k));
        }
    }

    private static void whereAllIsFull() {
        Due.promise("3: BAD; FULL");
        refused("person", -4, x -> x.person(0, 0, 0, 0));
        refused("person with the most", -4, x -> x.person(5, 9, 1023, 99));
        for (int kind : with(FAR, -1, 6)) refused("person of kind " + kind, -2, x -> x.person(kind, 0, 0, 0));
        for (int number : with(FAR, -1, 10)) refused("person of number " + number, -2, x -> x.person(0, number, 0, 0));
        for (int words : NOT_SETS) refused("person of words " + words, -2, x -> x.person(0, 0, words, 0));
        for (int memory : with(FAR, -1, 100)) refused("person of memory " + memory, -2, x -> x.person(0, 0, 0, memory));
        Due.promise("5: BAD; FULL");
        for (int thing : new int[] {1, 1023}) refused("brings(" + thing + ")", -4, x -> x.brings(thing));
        for (int thing : with(NOT_SETS, 0)) refused("brings(" + thing + ")", -2, x -> x.brings(thing));
        Due.promise("7: BAD; FULL");
        for (int letter : new int[] {0, 32, 255}) refused("feed(" + letter + ")", -4, x -> x.feed(letter));
        for (int letter : with(FAR, -1, 256)) refused("feed(" + letter + ")", -2, x -> x.feed(letter));
        Due.promise("8: FULL (ahead of all): no TEXT more has room (THE TAPE stays)");
        refused("text()", -4, x -> x.text());
        Due.promise("9: BAD");
        for (int text : with(FAR, -1, 6)) refused("force(" + text + ")", -2, x -> x.force(text));
        Due.promise("11: STATE: DAY is 999");
        refused("day()", -3, x -> x.day());
        Due.promise("28: how many came (others are left out)");
        for (int n : range(0, 5)) {
            refused("crew of " + n, 0, x -> x.crew(0, Due.INTS, 0, n));
        }
        refused("crew from 4", -12, x -> x.crew(0, Due.INTS, 4, 5));
        Due.promise("2, 29: BAD, -11");
        for (int one : with(FAR, -1, 5)) {
            for (int what : range(1, 4)) {
                refused("set(" + what + ", " + one + ", 0)", -2, x -> x.set(what, one, 0));
            }
            refused("taken(" + one + ", 0)", -11, x -> x.taken(one, 0));
        }
    }

    private static void whereNobodyIs() {
        Due.promise("2, 6, 18, 19, 29: none such");
        for (int one : range(0, 4)) {
            for (int what : range(1, 4)) {
                refused("set(" + what + ", " + one + ", 0)", -2, x -> x.set(what, one, 0));
            }
            refused("asks of " + one, -2, x -> x.asks(one, 0, 0));
            refused("tells of " + one + ", ahead of -11", -2, x -> x.tells(0, one, 0));
            refused("film of " + one, -2, x -> x.film(0, one));
            refused("taken " + one, -11, x -> x.taken(one, 0));
            refused("run, words of " + one, -1000, x -> x.run(0, 10 + one));
            refused("run, memory of " + one, -1000, x -> x.run(20, 20 + one));
        }
        Due.promise("14: BAD, ahead of NONE");
        refused("row of thing -1", -2, x -> x.row(-1, 1, 0));
        refused("row of thing 1024", -2, x -> x.row(1024, 3, 1));
        refused("row of n 0", -2, x -> x.row(0, 0, 0));
        refused("row of n 4", -2, x -> x.row(0, 4, 0));
        refused("row what -1", -2, x -> x.row(0, 1, -1));
        refused("row what 2", -2, x -> x.row(0, 1, 2));
        refused("row", -1, x -> x.row(0, 3, 0));
        Due.promise("17: NO: there are none");
        for (int part : range(-1, 2)) {
            refused("mean(" + part + ")", FerriedInWords.NO, x -> x.mean(part));
        }
        Due.promise("23: STATE: there is none");
        refused("back()", -3, x -> x.back());
        Due.promise("9: BAD");
        refused("force(1)", -2, x -> x.force(1));
        Due.promise("10, 18, 26, 27, 28: -11");
        for (int sheet : range(0, 3)) {
            refused("over by " + sheet, -11, x -> x.over(sheet, 0, 0));
            refused("cell of " + sheet, -11, x -> x.cell(sheet, 0, 0));
            refused("copy of " + sheet, -11, x -> x.copy(sheet, 0, sheet, 0, 0));
            for (int sort : range(0, 2)) {
                refused("crew by " + sheet, -11, x -> x.crew(sheet, sort, 0, 0));
            }
        }
    }
}
