/** Promises 25 to 29: the host. */
public final class HostTest {
    public static void main(String[] args) {
        sheet();
        sheetRefuses();
        cell();
        copy();
        copyOverlaps();
        copyRefuses();
        crew();
        crewLeavesOut();
        crewOutside();
        crewRefuses();
        taken();
        Due.end();
    }

    private static int held(FerriedInWords x, int sheet, int sort, int i) {
        return Due.held(x, sheet, sort, i, 3);
    }

    private static void holds(FerriedInWords x, int sheet, int sort, int... numbers) {
        Due.holds(x, sheet, sort, 3, numbers);
    }

    private static void sheet() {
        Due.promise("25");
        FerriedInWords x = new FerriedInWords();
        for (int sort = 0; sort < 3; sort++) {
            Due.due("sheet", x.sheet(sort, sort, 3), 1);
            holds(x, sort, sort, 0, 0, 0);
            Due.due("item 2", x.cell(sort, 2, 5), 1);
            Due.due("item 0", x.cell(sort, 0, 6), 1);
            Due.due("item 3", x.cell(sort, 3, 5), -12);
            holds(x, sort, sort, 6, 0, 5);
            Due.due("anew", x.sheet(sort, sort, 4), 1);
            holds(x, sort, sort, 0, 0, 0, 0);
            Due.due("of 40", x.sheet(sort, sort, 40), 1);
            Due.due("item 39", x.cell(sort, 39, 7), 1);
            Due.due("item 39", held(x, sort, sort, 39), 7);
            Due.due("item 40", x.cell(sort, 40, 7), -12);
            Due.due("of 0", x.sheet(sort, sort, 0), 1);
            Due.due("item 0", x.cell(sort, 0, 7), -12);
            for (int n : new int[] {0, 5, -1, 41, Due.MAX, Due.MIN}) {
                x.sheet(sort, sort, 1);
                Due.due("missing, n " + n, x.sheet(sort, -1, n), 1);
                Due.due("item 0", x.cell(sort, 0, 7), -11);
            }
        }
        x.sheet(3, Due.BYTES, 2);
        Due.due("sheet 3", x.cell(3, 1, 1), 1);
    }

    private static void sheetRefuses() {
        FerriedInWords x = new FerriedInWords();
        Due.lists(x, 0, Due.SHORTS, 300, 5);
        for (int s : new int[] {-1, 4, Due.MAX, Due.MIN}) {
            Due.due("sheet " + s, x.sheet(s, 0, 1), -2);
            Due.due("sheet missing " + s, x.sheet(s, -1, 1), -2);
        }
        for (int sort : new int[] {-2, 3, Due.MAX, Due.MIN}) {
            Due.due("sort " + sort, x.sheet(0, sort, 1), -2);
            Due.due("sort, ahead of a size below 0", x.sheet(0, sort, -1), -2);
        }
        for (int n : new int[] {41, Due.MAX}) Due.due("n " + n, x.sheet(0, 0, n), -2);
        for (int n : new int[] {-1, Due.MIN}) Due.due("n " + n, x.sheet(0, 0, n), -14);
        holds(x, 0, Due.SHORTS, 300, 5);
        Due.due("two items", x.cell(0, 2, 0), -12);
    }

    private static void cell() {
        Due.promise("26");
        FerriedInWords x = new FerriedInWords();
        Due.lists(x, 0, Due.BYTES, 256, 257, 127, 0x7f03, -255, 0, 1);
        holds(x, 0, Due.BYTES, 0, 1, 127, 3, 1, 0, 1);
        Due.lists(x, 0, Due.SHORTS, 65536, 66559, 1023, 256, -65535);
        holds(x, 0, Due.SHORTS, 0, 1023, 1023, 256, 1);
        Due.lists(x, 0, Due.INTS, 65536, 1023, 256);
        holds(x, 0, Due.INTS, -1, 1023, 256);
        Due.due("over again", x.cell(0, 0, 9), 1);
        Due.due("the other stays", held(x, 0, Due.INTS, 1), 1023);
        Due.due("over again", held(x, 0, Due.INTS, 0), 9);
        // The host's bytes are -128 .. 127: 128 is none of them, and no set.
        Due.lists(x, 1, Due.BYTES, 128, 255);
        holds(x, 1, Due.BYTES, -1, -1);
        for (int s : new int[] {-1, 4, Due.MAX, Due.MIN}) Due.due("cell of sheet " + s, x.cell(s, 0, 0), -2);
        for (int i : new int[] {-1, 0, 5, Due.MAX, Due.MIN}) Due.due("cell of a missing sheet", x.cell(2, i, 0), -11);
        for (int i : new int[] {-1, 3, 40, Due.MAX, Due.MIN}) Due.due("cell " + i, x.cell(0, i, 0), -12);
        holds(x, 0, Due.INTS, 9, 1023, 256);
    }

    private static void copy() {
        Due.promise("27");
        FerriedInWords x = new FerriedInWords();
        Due.lists(x, 0, Due.SHORTS, 10, 11, 12, 13);
        Due.lists(x, 1, Due.SHORTS, 20, 21, 22, 23, 24);
        Due.due("copy", x.copy(0, 1, 1, 2, 3), 3);
        holds(x, 1, Due.SHORTS, 20, 21, 11, 12, 13);
        holds(x, 0, Due.SHORTS, 10, 11, 12, 13);
        Due.due("none, at the ends", x.copy(0, 4, 1, 5, 0), 0);
        Due.due("all", x.copy(0, 0, 1, 0, 4), 4);
        holds(x, 1, Due.SHORTS, 10, 11, 12, 13, 13);
        Due.lists(x, 0, Due.BYTES, 1, 2);
        Due.lists(x, 1, Due.BYTES, 3, 4);
        Due.due("bytes", x.copy(0, 1, 1, 0, 1), 1);
        holds(x, 1, Due.BYTES, 2, 4);
        Due.lists(x, 0, Due.INTS);
        Due.due("of an empty one", x.copy(0, 0, 0, 0, 0), 0);
    }

    private static void copyOverlaps() {
        FerriedInWords x = new FerriedInWords();
        Due.lists(x, 0, Due.INTS, 1, 2, 3, 4, 5);
        Due.due("up", x.copy(0, 0, 0, 1, 4), 4);
        holds(x, 0, Due.INTS, 1, 1, 2, 3, 4);
        Due.lists(x, 0, Due.INTS, 1, 2, 3, 4, 5);
        Due.due("down", x.copy(0, 1, 0, 0, 4), 4);
        holds(x, 0, Due.INTS, 2, 3, 4, 5, 5);
    }

    private static void copyRefuses() {
        FerriedInWords x = new FerriedInWords();
        Due.lists(x, 0, Due.INTS, 1, 2, 3);
        Due.lists(x, 1, Due.INTS, 4, 5);
        Due.lists(x, 2, Due.SHORTS, 6, 7);
        for (int s : new int[] {-1, 4, Due.MAX, Due.MIN}) {
            Due.due("copy of sheet " + s, x.copy(s, 0, 0, 0, 0), -2);
            Due.due("copy to sheet " + s, x.copy(0, 0, s, 0, 0), -2);
            Due.due("copy to sheet " + s + ", of a missing one", x.copy(3, 0, s, 0, -1), -2);
        }
        Due.due("of a missing one", x.copy(3, 0, 0, 0, 0), -11);
        Due.due("to a missing one", x.copy(0, 0, 3, 0, 0), -11);
        Due.due("missing, ahead of outside", x.copy(0, -1, 3, 0, -1), -11);
        Due.due("unlike sorts", x.copy(0, 0, 2, 0, 1), -13);
        Due.due("unlike sorts, none", x.copy(2, 0, 0, 0, 0), -13);
        Due.due("unlike sorts, ahead of outside", x.copy(0, 9, 2, -1, -1), -13);
        int[][] outside = {{-1, 0, 1}, {0, -1, 1}, {0, 0, -1}, {0, 0, 3}, {2, 0, 2}, {0, 1, 2}, {4, 0, 0}, {0, 3, 0}, {3, 0, 1},
            {0, 2, 1}, {Due.MAX, 0, 1}, {0, Due.MAX, 1}, {0, 0, Due.MAX}, {1, 1, Due.MAX}, {Due.MIN, 0, 0}, {0, 0, Due.MIN}};
        for (int[] o : outside) Due.due("outside", x.copy(0, o[0], 1, o[1], o[2]), -12);
        holds(x, 0, Due.INTS, 1, 2, 3);
        holds(x, 1, Due.INTS, 4, 5);
    }

    private static void is(FerriedInWords x, int one, int kind, int number, int words, int memory) {
        int[] due = {number, words, memory, 0, kind};
        for (int what = 1; what < 6; what++) Due.due("told of " + one + " " + what, x.told(one, what), due[what - 1]);
    }

    private static void crew() {
        Due.promise("28");
        FerriedInWords x = new FerriedInWords();
        Due.lists(x, 0, Due.SHORTS, 99, 2, 3, 700, 50, 5, 9, 1023, 99, 0, 0, 0, 0);
        Due.due("nobody", x.crew(0, Due.SHORTS, 0, 0), 0);
        Due.due("two", x.crew(0, Due.SHORTS, 1, 2), 2);
        is(x, 0, 2, 3, 700, 50);
        is(x, 1, 5, 9, 1023, 99);
        Due.due("one more", x.crew(0, Due.SHORTS, 9, 1), 1);
        is(x, 2, 0, 0, 0, 0);
        Due.due("three", x.count(0), 3);
        FerriedInWords y = new FerriedInWords();
        Due.lists(y, 3, Due.BYTES, 1, 2, 3, 4);
        Due.due("by bytes", y.crew(3, Due.BYTES, 0, 1), 1);
        is(y, 0, 1, 2, 3, 4);
        y.sheet(2, Due.INTS, 40);
        Due.due("five by ints", y.crew(2, Due.INTS, 20, 5), 4);
        Due.due("full", y.count(0), 5);
        Due.due("none has room", y.crew(2, Due.INTS, 0, 5), 0);
    }

    private static void crewLeavesOut() {
        FerriedInWords x = new FerriedInWords();
        Due.lists(x, 0, Due.INTS, 6, 0, 0, 0, 0, 1, 2, 3, 0, 0, 1024, 0, 4, 5, 6, 7, 0, 0, 0, -1);
        Due.due("two of five", x.crew(0, Due.INTS, 0, 5), 2);
        is(x, 0, 0, 1, 2, 3);
        is(x, 1, 4, 5, 6, 7);
        Due.due("no more", x.count(0), 2);
    }

    private static void crewOutside() {
        FerriedInWords x = new FerriedInWords();
        Due.lists(x, 0, Due.INTS, 1, 1, 1, 1, 2, 2, 2, 2, 3, 3, 3);
        Due.due("the third is outside", x.crew(0, Due.INTS, 0, 3), -12);
        Due.due("two came", x.count(0), 2);
        is(x, 1, 2, 2, 2, 2);
        Due.due("the second is outside", x.crew(0, Due.INTS, 7, 2), -12);
        Due.due("one came", x.count(0), 3);
        is(x, 2, 2, 3, 3, 3);
        for (int from : new int[] {-1, -4, 8, 11, 12, Due.MAX, Due.MAX - 3, Due.MIN}) {
            Due.due("from " + from, x.crew(0, Due.INTS, from, 1), -12);
            Due.due("nobody of no place", x.crew(0, Due.INTS, from, 0), 0);
        }
        Due.due("nobody came", x.count(0), 3);
        x.person(0, 0, 0, 0);
        x.person(0, 0, 0, 0);
        Due.due("outside, though there is no room", x.crew(0, Due.INTS, 0, 3), -12);
        x.sheet(1, Due.INTS, 0);
        Due.due("of an empty one", x.crew(1, Due.INTS, 0, 1), -12);
    }

    private static void crewRefuses() {
        FerriedInWords x = new FerriedInWords();
        x.sheet(0, Due.SHORTS, 8);
        for (int s : new int[] {-1, 4, Due.MAX, Due.MIN}) Due.due("crew by sheet " + s, x.crew(s, 1, 0, 1), -2);
        for (int sort : new int[] {-1, 3, Due.MAX, Due.MIN}) {
            Due.due("crew of sort " + sort, x.crew(0, sort, 0, 1), -2);
            Due.due("crew of sort " + sort + ", missing", x.crew(1, sort, 0, 1), -2);
        }
        for (int n : new int[] {-1, 6, Due.MAX, Due.MIN}) {
            Due.due("crew of " + n, x.crew(0, 1, 0, n), -2);
            Due.due("crew of " + n + ", another sort", x.crew(0, 0, 0, n), -2);
            Due.due("crew of " + n + ", missing", x.crew(1, 1, 0, n), -2);
        }
        for (int sort : new int[] {0, 2}) {
            Due.due("another sort", x.crew(0, sort, 0, 1), -13);
            Due.due("another sort, ahead of outside", x.crew(0, sort, -1, 1), -13);
            Due.due("another sort, nobody", x.crew(0, sort, 0, 0), -13);
        }
        for (int sort = 0; sort < 3; sort++) {
            Due.due("missing", x.crew(1, sort, 0, 1), -11);
            Due.due("missing, nobody", x.crew(1, sort, -1, 0), -11);
        }
        Due.due("nobody came", x.count(0), 0);
    }

    private static void taken() {
        Due.promise("29");
        FerriedInWords x = new FerriedInWords();
        boolean[][] under = {{true}, {true, true}, {true, false, true}, {true, true, false, true}, {true, false, true, false, true},
            {true, false, false, false, false, true}};
        for (int kind = 0; kind < 5; kind++) x.person(kind, 9 - kind, 0, 0);
        FerriedInWords y = new FerriedInWords();
        y.person(Due.PLAIN, 4, 0, 0);
        for (int k = 0; k < 6; k++) {
            for (int kind = 0; kind < 5; kind++) {
                boolean is = k < under[kind].length && under[kind][k];
                Due.due("one of " + kind + " taken for " + k, x.taken(kind, k), is ? 9 - kind : -13);
            }
            Due.due("a plain one taken for " + k, y.taken(0, k), under[5][k] ? 4 : -13);
        }
        for (int k : new int[] {-1, 6, Due.MAX, Due.MIN}) {
            Due.due("taken for " + k, x.taken(0, k), -2);
            Due.due("nobody taken for " + k, x.taken(9, k), -2);
        }
        for (int one : new int[] {-1, 5, Due.MAX, Due.MIN}) Due.due("taken " + one, x.taken(one, 0), -11);
    }
}
