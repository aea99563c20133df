/** Promises 13 to 17: what would be best. */
public final class BestTest {
    public static void main(String[] args) {
        fro();
        row();
        rowIsBestOfAll();
        learn();
        from();
        mean();
        refusals();
        Due.end();
    }

    private static void fros(FerriedInWords x, int thing, int times, int is) {
        Due.due("fro " + thing, x.fro(thing, 0), times);
        Due.due("fro " + thing + ", what it is", x.fro(thing, 1), is);
    }

    private static void fro() {
        Due.promise("13");
        FerriedInWords x = new FerriedInWords();
        fros(x, 77, 1, 77);
        x.person(Due.LIAR, 0, 1023, 99);
        String was = Due.all(x);
        fros(x, 1, 2, 1);
        fros(x, 513, 2, 513);
        fros(x, 0, 3, 513);
        fros(x, 512, 3, 1);
        Due.same("all (nobody tires)", Due.all(x), was);
        FerriedInWords y = new FerriedInWords();
        Due.rules(y, "parts-1", "0", "0");
        y.person(Due.TELLER, 0, 1023, 0);
        fros(y, 1023, 11, 0);
        fros(y, 3, 3, 0);
        fros(y, 0, 1, 0);
        FerriedInWords z = new FerriedInWords();
        Due.rules(z, "parts-1+(memory*parts*9999*9999<0)", "0", "0");
        z.set(0, 0, 3);
        z.person(Due.TELLER, 3, 509, 46);
        z.person(Due.LIAR, 1, 1021, 42);
        z.person(Due.ENGINEER, 5, 1021, 84);
        z.person(Due.FATHER, 9, 509, 1);
        z.person(Due.LOVER, 5, 509, 97);
        int most = 0;
        for (int thing = 20; thing < 1024; thing += 97) most = Math.max(most, z.fro(thing, 0));
        Due.due("a long way", Math.max(most, z.fro(1023, 0)), 25);
    }

    private static void rows(FerriedInWords x, int thing, int n, int digits, int off) {
        Due.due("row " + thing + ", " + n, x.row(thing, n, 0), digits);
        Due.due("row " + thing + ", " + n + ", off", x.row(thing, n, 1), off);
    }

    private static void row() {
        Due.promise("14");
        FerriedInWords x = new FerriedInWords();
        for (int n = 1; n < 4; n++) rows(x, 5, n, -1, -1);
        for (int memory = 1; memory < 4; memory++) x.person(Due.TELLER, 0, 1023, memory);
        rows(x, 7, 1, 3, 0);
        rows(x, 7, 3, 3, 0);
        rows(x, 15, 3, 3, 1);
        rows(x, 3, 3, 2, 0);
        rows(x, 0, 2, 1, 0);
        FerriedInWords y = new FerriedInWords();
        for (int i = 0; i < 3; i++) y.person(Due.LIAR, 2, 1023, 99);
        rows(y, 4, 1, 1, 1);
        rows(y, 4, 2, 12, 0);
        rows(y, 4, 3, 12, 0);
        y.set(1, 0, 3);
        rows(y, 4, 2, 23, 0);
        FerriedInWords z = new FerriedInWords();
        z.person(Due.LIAR, 0, 1023, 99);
        rows(z, 1, 3, 1, 1);
    }

    /** Off a thing what a row of the sheet tells, the row written as digits. */
    private static int offOf(FerriedInWords x, int thing, int digits) {
        String row = Integer.toString(digits);
        x.sheet(0, Due.INTS, row.length());
        for (int i = 0; i < row.length(); i++) x.cell(0, i, row.charAt(i) - '1');
        return x.over(0, thing, 1);
    }

    private static void rowIsBestOfAll() {
        int[][] people = {{Due.ENGINEER, 0, 980, 0}, {Due.LIAR, 6, 996, 0}, {Due.LIAR, 5, 383, 3}, {Due.ENGINEER, 7, 390, 0}, {Due.LIAR, 4, 811, 5}};
        boolean[] sizes = new boolean[4];
        for (int thing = 1; thing < 1024; thing += 29) {
            int best = 0;
            int least = 99;
            for (int digits = 1; digits < 600; digits++) {
                String row = Integer.toString(digits);
                if (!row.matches("[1-5]+") || row.chars().distinct().count() != row.length()) continue;
                FerriedInWords x = new FerriedInWords();
                for (int[] p : people) x.person(p[0], p[1], p[2], p[3]);
                int off = offOf(x, thing, digits);
                if (off < least) {
                    least = off;
                    best = digits;
                }
            }
            FerriedInWords x = new FerriedInWords();
            for (int[] p : people) x.person(p[0], p[1], p[2], p[3]);
            rows(x, thing, 3, best, least);
            sizes[Integer.toString(best).length()] = true;
        }
        Due.due("a row of three was best once", sizes[3] ? 1 : 0, 1);
    }

    private static void learns(FerriedInWords x, int thing, int set, int many) {
        Due.due("learn " + thing, x.learn(thing, 0), set);
        Due.due("learn " + thing + ", how many", x.learn(thing, 1), many);
    }

    private static void learn() {
        Due.promise("15");
        FerriedInWords x = new FerriedInWords();
        learns(x, 900, 0, 0);
        x.person(Due.TELLER, 0, Due.bits(1), 5);
        learns(x, Due.bits(1), 0, 0);
        learns(x, Due.bits(1, 2), Due.bits(2), 1);
        learns(x, Due.bits(0, 1, 2, 8, 9), Due.bits(0, 2, 8, 9), 4);
        learns(x, 63, -1, -1);
        x.person(Due.TELLER, 0, Due.bits(2), 5);
        learns(x, Due.bits(1, 2), Due.bits(1, 2), 2);
        String was = Due.all(x);
        x.learn(1023, 0);
        Due.same("all", Due.all(x), was);
        FerriedInWords y = new FerriedInWords();
        Due.rules(y, "words-2", "0", "0");
        y.person(Due.TELLER, 0, Due.bits(3), 0);
        learns(y, Due.bits(3), Due.bits(0, 1), 2);
        learns(y, Due.bits(3, 9), Due.bits(0, 1, 9), 3);
        FerriedInWords z = new FerriedInWords();
        z.person(Due.FATHER, 3, Due.bits(1), 0);
        learns(z, Due.bits(1, 3), 0, 0);
        learns(z, Due.bits(1), -1, -1);
        learns(z, 0, -1, -1);
        FerriedInWords a = new FerriedInWords();
        for (int i = 0; i < 5; i++) a.person(Due.TELLER, 0, 0, 10);
        learns(a, 1023, 1023, 10);
        learns(a, 1022, 1022, 9);
        learns(a, 512, 512, 1);
    }

    private static void froms(FerriedInWords x, int thing, int many, int least) {
        Due.due("from " + thing, x.from(thing, 0), many);
        Due.due("from " + thing + ", the least", x.from(thing, 1), least);
    }

    private static void from() {
        Due.promise("16");
        FerriedInWords x = new FerriedInWords();
        froms(x, 1023, 1, 1023);
        froms(x, 0, 1, 0);
        x.person(Due.TELLER, 0, Due.bits(0, 1), 5);
        froms(x, 1, 256, 1);
        froms(x, 2, 256, 2);
        froms(x, 3, 256, 3);
        froms(x, 0, 256, 0);
        froms(x, 4, 0, -1);
        x.person(Due.FATHER, 8, 1023, 1);
        froms(x, 256, 256, 0);
        froms(x, Due.bits(0, 8), 256, 1);
        froms(x, Due.bits(0, 1, 8), 256, 3);
        froms(x, 1, 0, -1);
    }

    private static void means(FerriedInWords x, int above, int below) {
        Due.due("mean above", x.mean(0), above);
        Due.due("mean below", x.mean(1), below);
    }

    private static void mean() {
        Due.promise("17");
        FerriedInWords x = new FerriedInWords();
        Due.due("of nobody", x.mean(0), FerriedInWords.NO);
        Due.due("of nobody, below", x.mean(1), FerriedInWords.NO);
        x.person(Due.TELLER, 0, 0, 0);
        means(x, 0, 1);
        x.person(Due.TELLER, 0, 7, 0);
        means(x, 3, 2);
        x.person(Due.TELLER, 0, 512, 0);
        means(x, 4, 3);
        x.person(Due.TELLER, 0, 1023, 0);
        means(x, 7, 2);
        x.person(Due.TELLER, 0, 3, 0);
        means(x, 16, 5);
        x.set(2, 4, 1023);
        x.set(2, 0, 1);
        means(x, 5, 1);
        for (int part : new int[] {-1, 2, Due.MAX, Due.MIN}) Due.due("mean part " + part, x.mean(part), FerriedInWords.NO);
    }

    private static void refusals() {
        FerriedInWords x = new FerriedInWords();
        for (int people = 0; people < 2; people++) {
            for (int thing : new int[] {-1, 1024, Due.MAX, Due.MIN}) {
                Due.promise("13");
                Due.due("fro " + thing, x.fro(thing, 0), -2);
                Due.promise("14");
                Due.due("row " + thing, x.row(thing, 1, 0), -2);
                Due.promise("15");
                Due.due("learn " + thing, x.learn(thing, 0), -2);
                Due.promise("16");
                Due.due("from " + thing, x.from(thing, 0), -2);
            }
            for (int what : new int[] {-1, 2, Due.MAX, Due.MIN}) {
                Due.promise("13");
                Due.due("fro what " + what, x.fro(0, what), -2);
                Due.promise("14");
                Due.due("row what " + what, x.row(0, 1, what), -2);
                Due.promise("15");
                Due.due("learn what " + what, x.learn(0, what), -2);
                Due.promise("16");
                Due.due("from what " + what, x.from(0, what), -2);
            }
            Due.promise("14");
            for (int n : new int[] {0, -1, 4, Due.MAX, Due.MIN}) Due.due("row of " + n, x.row(0, n, 0), -2);
            x.person(Due.TELLER, 0, 0, 0);
        }
    }
}
