/** Promises 18 to 24: what was told of one. */
public final class BackTest {
    public static void main(String[] args) {
        tells();
        tellsOfOthers();
        tellsBounds();
        tellsRefuses();
        film();
        drawn();
        chance();
        image();
        imageKeepsNoMore();
        count();
        Due.end();
    }

    private static void tell(FerriedInWords x, int sheet, int one, int... due) {
        for (int what = 0; what < due.length; what++) Due.due("tells of " + one + " " + what, x.tells(sheet, one, what), due[what]);
    }

    private static void tells() {
        Due.promise("18");
        FerriedInWords x = new FerriedInWords();
        x.person(Due.TELLER, 4, Due.bits(0, 1, 2), 1);
        x.person(Due.TELLER, 4, Due.bits(0, 1), 1);
        x.person(Due.ENGINEER, 9, 1023, 5);
        x.person(Due.PLAIN, 9, 1023, 1);
        Due.reads(x, "keeps 0;tires 0;learns 0;");
        Due.reads(x, "keeps 1;tires 0;learns 0;");
        x.brings(9);
        String was = Due.all(x);
        Due.lists(x, 0, Due.SHORTS, 1, 2, 4);
        tell(x, 0, 0, -1, 5, 1023, 99, 1, 128, 7, 5, 5);
        Due.lists(x, 1, Due.INTS, 1, 2, 0);
        tell(x, 1, 0, 2, 0, 0, 0, -1, 128, 3, 0, 2);
        tell(x, 1, 1, -1, 5, 1023, 99, 1, 128, 3, 5, 2);
        Due.lists(x, 2, Due.BYTES, 0, 2, 4);
        tell(x, 2, 0, 0, 0, 0, 0, -1, 128, 6, 0, 0);
        Due.lists(x, 3, Due.INTS);
        tell(x, 3, 1, -1, 63, 1023, 100, 0, 1024, 0, 7, 15);
        Due.lists(x, 3, Due.INTS, 0, 0, 0);
        tell(x, 3, 0, 0, 32, 0, 1, 0, 128, 0, 2, 8);
        Due.same("all (in thought)", Due.all(x), was);
    }

    private static void tellsOfOthers() {
        FerriedInWords x = new FerriedInWords();
        x.set(0, 0, 1);
        x.person(Due.FATHER, 3, 0, 0);
        x.person(Due.LIAR, 3, 0, 0);
        x.person(Due.LOVER, 0, 3, 1);
        x.person(Due.FATHER, 4, 0, 0);
        Due.lists(x, 0, Due.INTS, 8, 8, 8);
        tell(x, 0, 0, -1, 2, 8, 100, 0, 128, 0, 1, 1);
        Due.lists(x, 1, Due.INTS, Due.bits(3, 6), Due.bits(3, 6));
        tell(x, 1, 0, 0, 8, 0, 0, -1, 0, -1, 0, 2);
        tell(x, 1, 1, -1, 8, Due.bits(3, 6), 100, 0, 256, 0, 1, 2);
        Due.lists(x, 2, Due.INTS, 1, 3, 0);
        tell(x, 2, 2, -1, 16, 1023, 99, 1, 128, 3, 1, 4);
        x.set(0, 0, 4);
        tell(x, 2, 2, -1, 16, 1023, 100, 0, 128, 3, 1, 4);
    }

    private static void tellsBounds() {
        FerriedInWords x = new FerriedInWords();
        x.person(Due.TELLER, 0, 1023, 99);
        Due.lists(x, 0, Due.INTS, 1, 2, 4, 8, 16, 32, 64, 128, 256, 512);
        tell(x, 0, 0, -1, 5, 1023, 99, 1, 1, 1023, 1, 1);
        x.cell(0, 9, 511);
        tell(x, 0, 0, 9, 0, 0, 0, -1, 0, -1, 0, 0);
        Due.lists(x, 1, Due.SHORTS, 65537, 2);
        tell(x, 1, 0, -1);
        Due.lists(x, 1, Due.INTS, 65537, 2);
        tell(x, 1, 0, 0);
        Due.reads(x, "keeps memory-98;tires 0;learns 0;");
        x.force(1);
        Due.lists(x, 1, Due.INTS, 1);
        tell(x, 1, 0, -1, 23, 1023, 1, 99);
        Due.reads(x, "keeps memory-99;tires 0;learns 0;");
        x.force(2);
        Due.due("no memory is above 99", x.tells(1, 0, 3), 0);
        Due.due("nor the least", x.tells(1, 0, 4), -1);
        x.force(0);
        for (int i = 1; i < 5; i++) x.person(Due.TELLER, 0, 1, i);
        for (int i = 3; i < 6; i++) Due.reads(x, "keeps 1;tires 0;learns 0;");
        Due.lists(x, 2, Due.BYTES, 1);
        Due.due("all texts but one", x.tells(2, 0, 7), 59);
        Due.due("all people", x.tells(2, 0, 8), 31);
        x.force(3);
        Due.due("the rule is tried, too", x.tells(2, 0, 7), 59);
        Due.due("any memory", x.tells(2, 0, 3), 100);
        Due.due("the rule stays", x.count(5), 3);
    }

    private static void tellsRefuses() {
        FerriedInWords x = new FerriedInWords();
        x.person(Due.TELLER, 0, 1023, 99);
        x.sheet(0, Due.BYTES, 11);
        x.sheet(1, Due.BYTES, 0);
        for (int s : new int[] {-1, 4, Due.MAX, Due.MIN}) Due.due("tells by sheet " + s, x.tells(s, 0, 0), -2);
        for (int one : new int[] {-1, 1, 5, Due.MAX, Due.MIN}) {
            Due.due("tells of " + one, x.tells(1, one, 0), -2);
            Due.due("tells of nobody, ahead of a missing sheet", x.tells(2, one, 8), -2);
        }
        for (int what : new int[] {-1, 9, Due.MAX, Due.MIN}) {
            Due.due("tells what " + what, x.tells(1, 0, what), -2);
            Due.due("tells what, ahead of a missing sheet", x.tells(2, 0, what), -2);
        }
        for (int what = 0; what < 9; what++) {
            Due.due("tells by a missing sheet", x.tells(2, 0, what), -11);
            Due.due("tells by eleven", x.tells(0, 0, what), -2);
        }
    }

    private static void film() {
        Due.promise("19");
        FerriedInWords x = new FerriedInWords();
        x.person(Due.TELLER, 0, Due.bits(0, 3, 9), 1);
        x.person(Due.FATHER, 3, 1023, 1);
        x.person(Due.LIAR, 3, 1023, 1);
        x.person(Due.PLAIN, 0, 1023, 2);
        String was = Due.all(x);
        Due.due("film of a teller", x.film(0, 0), 3);
        int[] teller = {1, 0, 0, 8, 0, 0, 0, 0, 0, 512};
        for (int i = 0; i < 10; i++) Due.due("not the end", x.cell(0, i, teller[i]), 1);
        Due.due("ten numbers", x.cell(0, 10, 0), -12);
        Due.due("as it tells", x.tells(0, 0, 0), -1);
        x.film(0, 0);
        Due.due("as it tells", x.tells(0, 0, 0), -1);
        x.sheet(1, Due.SHORTS, 3);
        Due.due("they are shorts", x.copy(0, 7, 1, 0, 3), 3);
        x.sheet(1, Due.INTS, 3);
        Due.due("they are no ints", x.copy(0, 7, 1, 0, 3), -13);
        Due.due("film of a father", x.film(3, 1), 1);
        Due.due("as it tells", x.tells(3, 1, 8), 2);
        Due.due("film of a liar", x.film(3, 2), 0);
        Due.due("as it tells", x.tells(3, 2, 8), 4);
        Due.due("film of a plain one", x.film(3, 3), 5);
        Due.due("as it tells", x.tells(3, 3, 8), 8);
        Due.same("all (nobody tires)", Due.all(x), was);
        for (int s : new int[] {-1, 4, Due.MAX, Due.MIN}) Due.due("film on " + s, x.film(s, 0), -2);
        for (int one : new int[] {-1, 4, Due.MAX, Due.MIN}) Due.due("film of " + one, x.film(2, one), -2);
        Due.due("it is missing", x.cell(2, 0, 0), -11);
        Due.due("the other stays", x.tells(3, 3, 8), 8);
    }

    private static void drawn() {
        Due.promise("20");
        FerriedInWords x = new FerriedInWords();
        Due.due("nobody is there", x.drawn(5, 40), 0);
        x.person(Due.TELLER, 0, 0, 0);
        Due.due("of 831", x.drawn(1, 1), 8);
        Due.due("none", x.drawn(1, 0), 0);
        int[] seeds = {0, 1, -1, 12345, Due.MAX, Due.MIN, 77};
        for (int seed : seeds) {
            long z = seed;
            int together = 0;
            for (int n = 1; n <= 40; n++) {
                z = z * 1103515245 + 12345 & 0xFFFFFFFFL;
                together += Long.bitCount(z >> 9 & 1023);
                Due.due("drawn of " + seed + ", " + n, x.drawn(seed, n), together);
            }
        }
        x.person(Due.FATHER, 4, 0, 0);
        Due.due("of 831 with 4 made up", x.drawn(1, 1), 7);
        for (int n : new int[] {-1, 41, Due.MAX, Due.MIN}) Due.due("drawn " + n, x.drawn(1, n), -2);
    }

    private static void chances(FerriedInWords x, int seed, int m, int k, int above, int below) {
        Due.due("chance above", x.chance(seed, m, k, 0), above);
        Due.due("chance below", x.chance(seed, m, k, 1), below);
    }

    private static int divisor(int a, int b) {
        return b == 0 ? a : divisor(b, a % b);
    }

    private static void chance() {
        Due.promise("21");
        FerriedInWords x = new FerriedInWords();
        chances(x, 3, 40, 0, 1, 1);
        x.person(Due.TELLER, 0, 0, 0);
        chances(x, 1, 1, 8, 1, 1);
        chances(x, 1, 1, 7, 0, 1);
        chances(x, 1, 40, 10, 1, 1);
        for (int seed : new int[] {0, 1, -20, Due.MAX - 10, Due.MIN}) {
            for (int m : new int[] {1, 2, 12, 39, 40}) {
                for (int k : new int[] {0, 4, 5, 6}) {
                    int many = 0;
                    for (int i = 0; i < m; i++) {
                        int z = (seed + i) * 1103515245 + 12345;
                        if (Integer.bitCount((z >>> 9) & 1023) <= k) many++;
                    }
                    int d = divisor(many, m);
                    chances(x, seed, m, k, many / d, m / d);
                }
            }
        }
        for (int wrong : new int[] {-1, 41, 0, Due.MAX, Due.MIN}) Due.due("chance m " + wrong, x.chance(1, wrong, 0, 0), FerriedInWords.NO);
        for (int wrong : new int[] {-1, 11, Due.MAX, Due.MIN}) Due.due("chance k " + wrong, x.chance(1, 1, wrong, 0), FerriedInWords.NO);
        for (int wrong : new int[] {-1, 2, Due.MAX, Due.MIN}) Due.due("chance part " + wrong, x.chance(1, 1, 0, wrong), FerriedInWords.NO);
    }

    private static void image() {
        Due.promise("22, 23");
        FerriedInWords x = new FerriedInWords();
        Due.due("no image", x.back(), -3);
        Due.due("of nobody", x.image(), 0);
        Due.due("back to nobody", x.back(), 0);
        Due.rules(x, "3", "1", "1");
        x.person(Due.TELLER, 1, 5, 50);
        x.person(Due.PLAIN, 2, 6, 60);
        for (int thing = 1; thing < 9; thing++) x.brings(thing);
        x.day();
        x.set(0, 0, 40);
        Due.due("image", x.image(), 2);
        String was = Due.all(x);
        for (int round = 0; round < 3; round++) {
            for (int day = 0; day < 5; day++) x.day();
            for (int one = 0; one < 2; one++) {
                for (int what = 1; what < 5; what++) x.set(what, one, 9);
            }
            x.force(0);
            if (round > 0) x.brings(1000);
            for (int i = 0; i < 3; i++) x.person(Due.LOVER, 9, 9, 9);
            x.brings(5);
            x.day();
            x.set(4, 2, 7);
            x.set(0, 0, 999);
            Due.due("back", x.back(), 2);
            Due.same("all", Due.all(x), was);
        }
        Due.due("who came is gone", x.asks(2, 0, 0), -2);
        Due.due("another one comes", x.person(Due.FATHER, 0, 0, 0), 2);
        Due.due("with nothing said", x.told(2, 4), 0);
        Due.due("a new image", x.image(), 3);
        x.person(Due.LIAR, 0, 0, 0);
        Due.due("back to the new one", x.back(), 3);
        x.day();
        Due.due("back goes on", x.back(), 3);
        Due.due("its father", x.told(2, 5), Due.FATHER);
    }

    private static void imageKeepsNoMore() {
        Due.promise("23");
        FerriedInWords x = new FerriedInWords();
        x.person(Due.TELLER, 0, 1023, 5);
        x.image();
        Due.lists(x, 0, Due.INTS, 0);
        Due.reads(x, "keeps 1;tires 1;learns 1;");
        x.force(1);
        Due.feeds(x, "keeps");
        Due.due("back", x.back(), 1);
        Due.due("texts stay", x.count(3), 2);
        Due.due("the tape stays", x.count(4), 5);
        Due.due("the rule goes", x.count(5), 0);
        Due.due("sheets stay", x.over(0, 1023, 0), 31);
    }

    private static void count() {
        Due.promise("24");
        FerriedInWords x = new FerriedInWords();
        for (int i = 0; i < 3; i++) x.person(0, 0, 0, 0);
        for (int i = 0; i < 4; i++) x.brings(1);
        x.set(0, 0, 55);
        for (int i = 0; i < 4; i++) Due.reads(x, "keeps 1;tires 1;learns 1;");
        x.force(2);
        Due.feeds(x, "abcdefg");
        int[] due = {3, 4, 55, 5, 7, 2};
        for (int what = 0; what < 6; what++) Due.due("count " + what, x.count(what), due[what]);
        for (int what : new int[] {-1, 6, Due.MAX, Due.MIN}) Due.due("count " + what, x.count(what), -2);
    }
}
