/** Promises 10 to 12: tellings, days. */
public final class DayTest {
    public static void main(String[] args) {
        over();
        overRefuses();
        day();
        dayIsToldAhead();
        dayBounds();
        run();
        runRefuses();
        Due.end();
    }

    private static void overs(FerriedInWords x, int sheet, int thing, int comes, int off, int lost, int made) {
        Due.due("over " + thing, x.over(sheet, thing, 0), comes);
        Due.due("off of " + thing, x.over(sheet, thing, 1), off);
        Due.due("lost of " + thing, x.over(sheet, thing, 2), lost);
        Due.due("made up of " + thing, x.over(sheet, thing, 3), made);
    }

    private static void over() {
        Due.promise("10");
        FerriedInWords x = new FerriedInWords();
        Due.rules(x, "memory", "5", "1");
        x.person(Due.TELLER, 0, 1023, 2);
        x.person(Due.FATHER, 9, 1023, 0);
        x.brings(1);
        String was = Due.all(x);
        Due.lists(x, 0, Due.BYTES, 0, 1);
        overs(x, 0, 15, Due.bits(0, 9), 4, Due.bits(1, 2, 3), Due.bits(9));
        Due.lists(x, 0, Due.SHORTS, 1, 0);
        overs(x, 0, 15, Due.bits(0, 9), 4, Due.bits(1, 2, 3), Due.bits(9));
        overs(x, 0, 0, Due.bits(9), 1, 0, Due.bits(9));
        Due.lists(x, 1, Due.INTS, 0);
        overs(x, 1, 1023, 3, 8, 1020, 0);
        Due.lists(x, 2, Due.INTS, 0, 0, 0);
        overs(x, 2, 1023, 3, 8, 1020, 0);
        Due.lists(x, 2, Due.BYTES, 1, 1);
        overs(x, 2, 3, Due.bits(0, 9), 2, 2, Due.bits(9));
        Due.lists(x, 3, Due.INTS);
        overs(x, 3, 775, 775, 0, 0, 0);
        x.sheet(3, Due.BYTES, 40);
        overs(x, 3, 1020, Due.bits(2, 3), 6, 1008, 0);
        Due.same("all (nobody tires, learns)", Due.all(x), was);
        x.person(Due.TELLER, 0, Due.bits(0), 99);
        x.person(Due.ENGINEER, 0, Due.bits(0), 99);
        Due.lists(x, 0, Due.INTS, 3, 2);
        overs(x, 0, 3, 1, 1, 2, 0);
        Due.lists(x, 0, Due.INTS, 2, 3);
        overs(x, 0, 3, 1, 1, 2, 0);
        Due.lists(x, 0, Due.INTS, 3);
        overs(x, 0, 3, 3, 0, 0, 0);
    }

    private static void overRefuses() {
        FerriedInWords x = new FerriedInWords();
        x.person(Due.TELLER, 0, 1023, 2);
        Due.lists(x, 0, Due.SHORTS, 0);
        for (int s : new int[] {-1, 4, Due.MAX, Due.MIN}) Due.due("over sheet " + s, x.over(s, 0, 0), -2);
        for (int thing : new int[] {-1, 1024, Due.MAX, Due.MIN}) {
            Due.due("over thing " + thing, x.over(0, thing, 0), -2);
            Due.due("over thing, ahead of a missing sheet", x.over(1, thing, 0), -2);
        }
        for (int what : new int[] {-1, 4, Due.MAX, Due.MIN}) {
            Due.due("over what " + what, x.over(0, 0, what), -2);
            Due.due("over what, ahead of a missing sheet", x.over(1, 0, what), -2);
        }
        Due.due("over a missing sheet", x.over(1, 0, 0), -11);
        for (int who : new int[] {1, -1, 5, 256, Due.MAX, Due.MIN}) {
            Due.lists(x, 2, Due.INTS, 0, who);
            Due.due("over who isn't there", x.over(2, 0, 0), -2);
            Due.lists(x, 2, Due.INTS, who, 0);
            Due.due("over who isn't there, at first", x.over(2, 0, 0), -2);
        }
        x.cell(2, 0, 0);
        Due.due("over now", x.over(2, 7, 0), 3);
    }

    private static void states(FerriedInWords x, int one, int words, int memory, int said) {
        Due.due("words of " + one, x.told(one, 2), words);
        Due.due("memory of " + one, x.told(one, 3), memory);
        Due.due("said of " + one, x.told(one, 4), said);
    }

    private static void day() {
        Due.promise("11");
        FerriedInWords x = new FerriedInWords();
        Due.rules(x, "memory", "2", "1");
        x.person(Due.TELLER, 0, Due.bits(1, 2), 3);
        x.person(Due.ENGINEER, 0, Due.bits(0), 1);
        x.brings(7);
        x.brings(8);
        x.brings(16);
        Due.due("day 0", x.day(), 0);
        states(x, 0, 7, 1, 1);
        states(x, 1, 3, 0, 1);
        Due.due("the jetty", x.told(0, 7), 2);
        Due.due("first now", x.told(0, 6), 8);
        Due.due("then", x.told(1, 6), 16);
        Due.due("come over", x.told(0, 8), 1);
        Due.due("day", x.told(0, 0), 1);
        Due.due("day 1", x.day(), 0);
        states(x, 0, 15, 0, 2);
        states(x, 1, 3, 0, 2);
        x.set(3, 0, 9);
        x.set(2, 1, 1023);
        x.set(3, 1, 9);
        x.set(2, 0, 16);
        Due.due("day 2", x.day(), 16);
        states(x, 0, 16, 7, 3);
        states(x, 1, 1023, 6, 3);
        Due.due("come over", x.told(0, 8), 3);
        Due.due("nothing is there", x.day(), FerriedInWords.NONE);
        states(x, 0, 16, 7, 3);
        Due.due("come over", x.told(0, 8), 3);
        Due.due("day", x.told(0, 0), 4);
        FerriedInWords y = new FerriedInWords();
        y.brings(77);
        Due.due("nobody is there", y.day(), 77);
        Due.due("come over", y.told(0, 8), 1);
    }

    private static void dayIsToldAhead() {
        FerriedInWords x = new FerriedInWords();
        Due.rules(x, "9", "3", "0");
        x.person(Due.PLAIN, 0, 1023, 20);
        for (int thing = 1; thing < 5; thing++) x.brings(thing);
        int[] memory = {17, 17, 14, 14};
        for (int i = 0; i < 4; i++) {
            Due.due("day", x.day(), i + 1);
            states(x, 0, 1023, memory[i], i + 1);
        }
        FerriedInWords y = new FerriedInWords();
        Due.rules(y, "words", "words*10", "1-said");
        y.person(Due.TELLER, 0, Due.bits(2), 50);
        y.person(Due.LIAR, 9, 0, 50);
        y.brings(Due.bits(2, 3, 5));
        y.brings(Due.bits(2, 3, 5));
        Due.due("keeps by the words ahead", y.day(), Due.bits(0, 9));
        states(y, 0, Due.bits(2, 3), 40, 1);
        states(y, 1, Due.bits(2), 41, 1);
        Due.due("learns by said ahead", y.day(), Due.bits(2, 0, 9));
        states(y, 0, Due.bits(2, 3), 20, 2);
        FerriedInWords z = new FerriedInWords();
        Due.rules(z, "day+1", "day", "0");
        z.person(Due.TELLER, 0, 1023, 9);
        z.person(Due.LOVER, 0, 1023, 9);
        z.brings(1023);
        z.brings(1023);
        Due.due("day 0", z.day(), 1);
        states(z, 0, 1023, 9, 1);
        Due.due("day 1", z.day(), 3);
        states(z, 0, 1023, 8, 2);
    }

    private static void dayBounds() {
        FerriedInWords x = new FerriedInWords();
        Due.rules(x, "9", "99", "0");
        x.person(Due.ENGINEER, 0, 1023, 99);
        x.brings(5);
        x.brings(6);
        x.set(4, 0, 98);
        x.set(0, 0, 998);
        Due.due("day 998", x.day(), 5);
        states(x, 0, 1023, 0, 99);
        String was = Due.all(x);
        Due.due("day 999", x.day(), -3);
        Due.same("all", Due.all(x), was);
        x.set(0, 0, 0);
        Due.due("said stays at 99", x.day(), 6);
        states(x, 0, 1023, 0, 99);
        x.set(0, 0, 999);
        Due.due("day 999 with nothing there", x.day(), -3);
        FerriedInWords y = new FerriedInWords();
        for (int i = 0; i < 20; i++) {
            y.brings(9);
            y.day();
        }
        Due.due("come over", y.told(0, 8), 20);
    }

    private static void run() {
        Due.promise("12");
        FerriedInWords x = new FerriedInWords();
        Due.rules(x, "memory", "1", "1");
        x.person(Due.TELLER, 0, Due.bits(0, 1), 3);
        x.person(Due.FATHER, 8, Due.bits(0), 5);
        x.brings(7);
        x.brings(56);
        x.brings(3);
        String was = Due.all(x);
        int[] last = {-1, Due.bits(0, 8), Due.bits(8), Due.bits(0, 8), Due.bits(0, 8), Due.bits(0, 8)};
        int[] many = {0, 1, 2, 3, 3, 3};
        int[] words = {3, 7, 15, 15, 15, 15};
        int[] memory = {3, 2, 1, 0, 0, 0};
        for (int n = 0; n < 6; n++) {
            Due.due("last in " + n, x.run(n, 0), last[n]);
            Due.due("many in " + n, x.run(n, 1), many[n]);
            Due.due("words of 0 in " + n, x.run(n, 10), words[n]);
            Due.due("words of 1 in " + n, x.run(n, 11), 1);
            Due.due("memory of 0 in " + n, x.run(n, 20), memory[n]);
            Due.due("memory of 1 in " + n, x.run(n, 21), 5);
        }
        Due.due("last in 20", x.run(20, 0), Due.bits(0, 8));
        Due.same("all (it was in thought)", Due.all(x), was);
        FerriedInWords y = new FerriedInWords();
        Due.rules(y, "day-998", "0", "0");
        y.person(Due.TELLER, 0, 1023, 0);
        y.set(0, 0, 999);
        for (int i = 0; i < 8; i++) y.brings(1023);
        Due.due("day 999 in thought", y.run(1, 0), 1);
        Due.due("day 1000 in thought", y.run(2, 0), 3);
        Due.due("day 1006 in thought", y.run(20, 0), 255);
        Due.due("all came", y.run(20, 1), 8);
        Due.due("day is as it was", y.count(2), 999);
    }

    private static void runRefuses() {
        FerriedInWords x = new FerriedInWords();
        x.person(Due.TELLER, 0, 1, 2);
        x.person(Due.TELLER, 0, 3, 4);
        x.brings(1);
        for (int n : new int[] {-1, 21, Due.MAX, Due.MIN}) Due.due("run " + n, x.run(n, 0), -1000);
        for (int what : new int[] {-1, 2, 9, 12, 15, 19, 22, 25, 30, Due.MAX, Due.MIN}) Due.due("run what " + what, x.run(0, what), -1000);
        Due.due("run 20", x.run(20, 1), 1);
        Due.due("words of 1", x.run(0, 11), 3);
        Due.due("memory of 1", x.run(0, 21), 4);
        FerriedInWords y = new FerriedInWords();
        Due.due("words of nobody", y.run(0, 10), -1000);
        Due.due("memory of nobody", y.run(0, 20), -1000);
        Due.due("nothing came", y.run(20, 0), -1);
        for (int i = 0; i < 5; i++) y.person(0, 0, i, i);
        Due.due("words of the last", y.run(1, 14), 4);
        Due.due("memory of the last", y.run(1, 24), 4);
    }
}
