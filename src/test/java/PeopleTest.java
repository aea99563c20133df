/** Promises 1 to 6: people, the jetty. */
public final class PeopleTest {
    public static void main(String[] args) {
        aNewObject();
        set();
        setRefuses();
        person();
        told();
        brings();
        asksTellers();
        asksFathersAndEngineers();
        asksLiarsAndLovers();
        asksPlains();
        asksKeepsBounds();
        asksTires();
        asksLearns();
        asksRefuses();
        Due.end();
    }

    private static void aNewObject() {
        Due.promise("1");
        FerriedInWords x = new FerriedInWords();
        int[] counts = {0, 0, 0, 1, 0, 0};
        for (int what = 0; what < 6; what++) Due.due("count", x.count(what), counts[what]);
        Due.due("told day", x.told(0, 0), 0);
        Due.due("told jetty", x.told(0, 7), 0);
        Due.due("told come over", x.told(0, 8), 0);
        Due.due("told one", x.told(0, 5), -1000);
        for (int sheet = 0; sheet < 4; sheet++) Due.due("cell of a missing sheet", x.cell(sheet, 0, 0), -11);
        Due.due("back", x.back(), FerriedInWords.STATE);
        Due.due("day", x.day(), FerriedInWords.NONE);
        FerriedInWords y = new FerriedInWords();
        x.person(0, 0, 0, 0);
        x.brings(1);
        Due.due("another object", y.count(0) + y.count(1), 0);
    }

    private static void set() {
        Due.promise("2");
        FerriedInWords x = new FerriedInWords();
        x.person(Due.PLAIN, 1, 2, 3);
        x.person(Due.LIAR, 4, 5, 6);
        int[] most = {999, 9, 1023, 99, 99};
        int[] was = {0, 4, 5, 6, 0};
        for (int what = 0; what < 5; what++) {
            Due.due("set " + what, x.set(what, 1, most[what]), was[what]);
            Due.due("told " + what, x.told(1, what), most[what]);
            Due.due("set " + what + " to 0", x.set(what, 1, 0), most[what]);
            Due.due("told " + what, x.told(1, what), 0);
            Due.due("set " + what + " to 7", x.set(what, 1, 7), 0);
        }
        for (int what = 1; what < 5; what++) Due.due("the other one's " + what, x.told(0, what), what == 4 ? 0 : what);
        Due.due("kind stays", x.told(1, 5), Due.LIAR);
        Due.due("of does not matter for day", x.set(0, -5, 12), 7);
        Due.due("nor this", x.set(0, 99, 13), 12);
        Due.due("count(2)", x.count(2), 13);
    }

    private static void setRefuses() {
        FerriedInWords x = new FerriedInWords();
        x.person(Due.TELLER, 1, 2, 3);
        x.set(0, 0, 5);
        String was = Due.all(x);
        int[] above = {1000, 10, 1024, 100, 100};
        for (int what = 0; what < 5; what++) {
            Due.due("set above", x.set(what, 0, above[what]), -2);
            Due.due("set below", x.set(what, 0, -1), -2);
            Due.due("set far above", x.set(what, 0, Due.MAX), -2);
            Due.due("set far below", x.set(what, 0, Due.MIN), -2);
            if (what == 0) continue;
            Due.due("set of nobody", x.set(what, 1, 0), -2);
            Due.due("set of below", x.set(what, -1, 0), -2);
            Due.due("set of far", x.set(what, Due.MAX, 0), -2);
        }
        Due.due("set what below", x.set(-1, 0, 0), -2);
        Due.due("set what above", x.set(5, 0, 0), -2);
        Due.same("all", Due.all(x), was);
    }

    private static void person() {
        Due.promise("3");
        FerriedInWords x = new FerriedInWords();
        int[][] wrong = {{-1, 0, 0, 0}, {6, 0, 0, 0}, {0, -1, 0, 0}, {0, 10, 0, 0}, {0, 0, -1, 0}, {0, 0, 1024, 0},
            {0, 0, 0, -1}, {0, 0, 0, 100}, {Due.MAX, 0, 0, 0}, {0, Due.MIN, 0, 0}};
        for (int[] w : wrong) Due.due("wrong person", x.person(w[0], w[1], w[2], w[3]), -2);
        Due.due("nobody came", x.count(0), 0);
        int[][] people = {{0, 0, 0, 0}, {5, 9, 1023, 99}, {1, 3, 256, 1}, {3, 7, 77, 50}, {4, 2, 2, 2}};
        for (int i = 0; i < 5; i++) {
            int[] p = people[i];
            Due.due("person", x.person(p[0], p[1], p[2], p[3]), i);
            Due.due("count", x.count(0), i + 1);
        }
        for (int i = 0; i < 5; i++) {
            Due.due("kind", x.told(i, 5), people[i][0]);
            for (int what = 1; what < 4; what++) Due.due("told " + what, x.told(i, what), people[i][what]);
            Due.due("said", x.told(i, 4), 0);
        }
        String was = Due.all(x);
        Due.due("a sixth one", x.person(2, 0, 0, 0), -4);
        Due.due("a wrong sixth one", x.person(6, 0, 0, 0), -2);
        Due.due("another wrong one", x.person(0, 0, 0, 100), -2);
        Due.same("all", Due.all(x), was);
    }

    private static void told() {
        Due.promise("4");
        FerriedInWords x = new FerriedInWords();
        x.person(Due.ENGINEER, 8, 700, 41);
        x.brings(3);
        x.brings(500);
        x.day();
        x.set(4, 0, 30);
        int[] due = {1, 8, 700, 40, 30, 2, 500, 1, 1};
        for (int what = 0; what < 9; what++) Due.due("told " + what, x.told(0, what), due[what]);
        int[] ofNobody = {1, -1000, -1000, -1000, -1000, -1000, -1000, 1, 1};
        for (int of : new int[] {1, -1, 5, Due.MAX, Due.MIN}) {
            for (int what = 0; what < 9; what++) Due.due("told of " + of + " " + what, x.told(of, what), ofNobody[what]);
        }
        for (int what : new int[] {-1, 9, Due.MAX, Due.MIN}) Due.due("told what " + what, x.told(0, what), -1000);
    }

    private static void brings() {
        Due.promise("5");
        FerriedInWords x = new FerriedInWords();
        for (int wrong : new int[] {0, -1, 1024, Due.MAX, Due.MIN}) Due.due("brings " + wrong, x.brings(wrong), -2);
        Due.due("nothing there", x.told(0, 7), 0);
        int[] things = {1, 1023, 512, 7, 7, 300, 2, 900};
        for (int i = 0; i < 8; i++) Due.due("brings", x.brings(things[i]), i + 1);
        for (int i = 0; i < 8; i++) Due.due("thing", x.told(i, 6), things[i]);
        Due.due("a ninth one", x.brings(1), -4);
        Due.due("no thing, ahead of full", x.brings(0), -2);
        Due.due("no set, ahead of full", x.brings(1024), -2);
        Due.due("told behind", x.told(8, 6), -1000);
        Due.due("how many", x.told(0, 7), 8);
        x.day();
        Due.due("brings once one is over", x.brings(55), 8);
        Due.due("it is last", x.told(7, 6), 55);
        Due.due("the others are nearer", x.told(0, 6), 1023);
    }

    private static int one(FerriedInWords x, int kind, int number, int words, int memory) {
        return x.person(kind, number, words, memory);
    }

    private static void asksTellers() {
        Due.promise("6 teller");
        FerriedInWords x = new FerriedInWords();
        int t = one(x, Due.TELLER, 6, Due.bits(0, 2, 3, 5, 9), 3);
        Due.due("keeps", x.asks(t, 1023, 1), 3);
        Due.due("tires", x.asks(t, 1023, 2), 0);
        Due.due("learns", x.asks(t, 1023, 3), 0);
        Due.due("of all", x.asks(t, 1023, 0), Due.bits(0, 2, 3));
        Due.due("of 3, 5, 9", x.asks(t, Due.bits(3, 5, 9), 0), Due.bits(3, 5, 9));
        Due.due("of 0, 1", x.asks(t, 3, 0), 1);
        Due.due("of nothing", x.asks(t, 0, 0), 0);
        x.set(3, t, 10);
        Due.due("of all with much memory", x.asks(t, 1023, 0), Due.bits(0, 2, 3, 5, 9));
        x.set(3, t, 0);
        Due.due("of all with no memory", x.asks(t, 1023, 0), 0);
        Due.due("asking is no telling", x.told(t, 4), 0);
    }

    private static void asksFathersAndEngineers() {
        Due.promise("6 father");
        FerriedInWords x = new FerriedInWords();
        int f = one(x, Due.FATHER, 7, 1023, 2);
        Due.due("keeps", x.asks(f, 1023, 1), 3);
        Due.due("of all", x.asks(f, 1023, 0), Due.bits(0, 1, 2, 7));
        Due.due("of nothing", x.asks(f, 0, 0), Due.bits(7));
        Due.due("of that part", x.asks(f, Due.bits(7), 0), Due.bits(7));
        Due.promise("6 engineer");
        int e = one(x, Due.ENGINEER, 0, 1023, 1);
        Due.due("keeps", x.asks(e, 1023, 1), 2);
        Due.due("of all", x.asks(e, 1023, 0), Due.bits(0, 1, 2));
        Due.due("next is not of it", x.asks(e, Due.bits(0, 1, 3), 0), Due.bits(0, 1));
        Due.due("next of the second", x.asks(e, Due.bits(1, 4, 5), 0), Due.bits(1, 4, 5));
        int n = one(x, Due.ENGINEER, 0, Due.bits(8, 9), 1);
        Due.due("of 9 none", x.asks(n, 1023, 0), Due.bits(8, 9));
        x.set(2, n, Due.bits(9));
        Due.due("of 9 alone none", x.asks(n, 1023, 0), Due.bits(9));
        x.set(2, n, Due.bits(4));
        Due.due("next without a word for it", x.asks(n, 1023, 0), Due.bits(4, 5));
    }

    private static void asksLiarsAndLovers() {
        Due.promise("6 liar");
        FerriedInWords x = new FerriedInWords();
        int l = one(x, Due.LIAR, 4, 0, 0);
        Due.due("keeps", x.asks(l, 1023, 1), 1);
        Due.due("of all without words", x.asks(l, 1023, 0), Due.bits(4, 5));
        x.set(2, l, Due.bits(5));
        Due.due("turned out", x.asks(l, Due.bits(5), 0), Due.bits(4));
        x.set(1, l, 9);
        Due.due("number 9", x.asks(l, 0, 0), Due.bits(0, 9));
        x.set(1, l, 0);
        Due.due("number 0", x.asks(l, 0, 0), Due.bits(0, 9));
        x.set(2, l, 1023);
        Due.due("number 0, turned out", x.asks(l, Due.bits(9), 0), Due.bits(0));
        Due.promise("6 lover");
        int v = one(x, Due.LOVER, 0, Due.bits(0, 1, 4), 0);
        Due.due("keeps on day 0", x.asks(v, 1023, 1), 10);
        Due.due("all that is less", x.asks(v, Due.bits(4, 5), 0), Due.bits(0, 1, 4, 5));
        Due.due("less than the first alone", x.asks(v, Due.bits(1, 5), 0), Due.bits(0, 1));
        Due.due("none is of that", x.asks(v, Due.bits(7), 0), 0);
        for (int day = 1; day < 4; day++) {
            x.set(0, 0, day);
            Due.due("keeps on day " + day, x.asks(v, 1023, 1), 0);
            Due.due("tells on day " + day, x.asks(v, 1023, 0), 0);
        }
        x.set(3, v, 3);
        Due.due("keeps twice", x.asks(v, 1023, 1), 6);
        x.set(0, 0, 996);
        Due.due("keeps on day 996", x.asks(v, 1023, 1), 10);
    }

    private static void asksPlains() {
        Due.promise("6 plain");
        FerriedInWords x = new FerriedInWords();
        int p = one(x, Due.PLAIN, 0, 1023, 7);
        Due.due("keeps half, cut", x.asks(p, 1023, 1), 3);
        Due.due("part 4 stays", x.asks(p, Due.bits(2, 3, 4, 5), 0), Due.bits(2, 3, 4));
        Due.due("kept ahead of leaving out", x.asks(p, Due.bits(3, 5, 6), 0), Due.bits(3));
        Due.due("no part above 4", x.asks(p, Due.bits(5, 6, 7, 8, 9), 0), 0);
        x.set(3, p, 1);
        Due.due("half of 1", x.asks(p, 1023, 1), 0);
    }

    private static void asksKeepsBounds() {
        Due.promise("6 keeps");
        FerriedInWords x = new FerriedInWords();
        for (int kind = 0; kind < 5; kind++) x.person(kind, 0, 0, 0);
        x.set(0, 0, 1);
        keep(x, "9", new int[] {9, 10, 10, 10, 10});
        keep(x, "5", new int[] {5, 6, 10, 6, 10});
        keep(x, "0-5", new int[] {0, 1, 0, 1, 0});
        keep(x, "9999", new int[] {10, 10, 10, 10, 10});
        FerriedInWords y = new FerriedInWords();
        y.person(Due.PLAIN, 0, 0, 0);
        keep(y, "18", new int[] {9});
        keep(y, "19", new int[] {9});
        keep(y, "20", new int[] {10});
        keep(y, "200", new int[] {10});
        keep(y, "0-9", new int[] {0});
    }

    private static void keep(FerriedInWords x, String keeps, int[] due) {
        Due.rules(x, keeps, "0", "0");
        for (int i = 0; i < due.length; i++) Due.due("keeps " + keeps + " of kind " + x.told(i, 5), x.asks(i, 0, 1), due[i]);
    }

    private static void asksTires() {
        Due.promise("6 tires");
        FerriedInWords x = new FerriedInWords();
        for (int kind = 0; kind < 5; kind++) x.person(kind, 8, 0, 0);
        FerriedInWords y = new FerriedInWords();
        y.person(Due.PLAIN, 8, 0, 0);
        tire(x, y, "99", new int[] {99, 0, 100, 8, 50}, 99);
        tire(x, y, "200", new int[] {99, 0, 100, 8, 50}, 99);
        tire(x, y, "98", new int[] {98, 0, 99, 8, 49}, 98);
        tire(x, y, "0", new int[] {0, 0, 1, 8, 0}, 0);
        tire(x, y, "-7", new int[] {0, 0, 1, 8, 0}, 0);
    }

    private static void tire(FerriedInWords x, FerriedInWords y, String tires, int[] due, int plain) {
        Due.rules(x, "0", tires, "0");
        for (int i = 0; i < 5; i++) Due.due("tires " + tires + " of kind " + i, x.asks(i, 0, 2), due[i]);
        Due.rules(y, "0", tires, "0");
        for (int said = 0; said < 4; said++) {
            y.set(4, 0, said);
            Due.due("tires " + tires + " of a plain one at said " + said, y.asks(0, 0, 2), said % 2 == 0 ? plain : 0);
        }
    }

    private static void asksLearns() {
        Due.promise("6 learns");
        int[][] due = {{0, 0, 0}, {0, 0, 0}, {0, 1, 0}, {0, 0, 0}, {0, 1, 0}, {0, 0, 0}};
        int[] yes = {1, 0, 1, 1, 1, 0};
        String[] rules = {"0", "1", "99", "0-1", "day"};
        int[] things = {0, 64, 65};
        for (int kind = 0; kind < 6; kind++) {
            FerriedInWords x = new FerriedInWords();
            x.person(kind, 3, 1023, 5);
            for (int r = 0; r < 5; r++) {
                Due.rules(x, "0", "0", rules[r]);
                for (int t = 0; t < 3; t++) {
                    int want = r == 1 || r == 2 ? yes[kind] : due[kind][t];
                    Due.due("learns " + rules[r] + " kind " + kind + " thing " + things[t], x.asks(0, things[t], 3), want);
                }
            }
        }
    }

    private static void asksRefuses() {
        Due.promise("6");
        FerriedInWords x = new FerriedInWords();
        x.person(Due.TELLER, 0, 1023, 5);
        String was = Due.all(x);
        for (int what : new int[] {-1, 4, Due.MAX, Due.MIN}) Due.due("asks what " + what, x.asks(0, 0, what), -2);
        for (int thing : new int[] {-1, 1024, Due.MAX, Due.MIN}) Due.due("asks of " + thing, x.asks(0, thing, 0), -2);
        for (int one : new int[] {-1, 1, 5, Due.MAX, Due.MIN}) Due.due("asks one " + one, x.asks(one, 0, 0), -2);
        Due.due("asks of 0", x.asks(0, 0, 1), 5);
        Due.due("asks of 1023", x.asks(0, 1023, 0), 31);
        Due.same("all", Due.all(x), was);
    }
}
