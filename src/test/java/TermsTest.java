/** The Terms' first part: each sentence that names a boundary case has a test of its own, which bears its words. */
public final class TermsTest {
    private static final int[] NO_SETS = {-1, 1024, Due.MIN, Due.MAX};

    public static void main(String[] args) {
        anObjectIsUsedFor512Calls();
        parts();
        day();
        people();
        kinds();
        ofOne(1, "a NUMBER (0 .. 9)", 9);
        ofOne(2, "WORDS (a set)", 1023);
        ofOne(3, "MEMORY (0 .. 99)", 99);
        said();
        theJetty();
        things();
        oneBehindTheOther();
        comeOver();
        constants();
        keepsOfEach();
        keepsIsLaidOnce();
        plainKeepsAheadOfLeavingOut();
        tellerTells();
        fatherTells();
        engineerTells();
        liarTells();
        loverTells();
        plainTells();
        tiresOfEach();
        tiresCanBe100();
        plainTires();
        learnsIfItIsNot0();
        learnsOfOnePart();
        learnsThoughNoneIsLacking();
        Due.end();
    }

    /** Of a new object with one of a kind, who has all words, at a day. */
    private static FerriedInWords at(int day, int kind, int number, int memory) {
        FerriedInWords x = Due.with(kind, number, Due.ALL, memory);
        x.set(0, 0, day);
        return x;
    }

    private static void anObjectIsUsedFor512Calls() {
        Due.promise("An object is used for at most 512 calls");
        FerriedInWords x = new FerriedInWords();
        Due.due("call 1", x.person(Due.TELLER, 0, 1023, 10), 0);
        for (int i = 2; i <= 505; i++) Due.due("call " + i, x.asks(0, i, 0), i);
        Due.due("call 506", x.brings(7), 1);
        Due.due("call 507", x.image(), 1);
        Due.due("call 508", x.day(), 7);
        Due.due("call 509", x.back(), 1);
        Due.due("call 510", x.run(1, 0), 7);
        Due.due("call 511", x.day(), 7);
        Due.due("call 512", x.told(0, 8), 1);
    }

    private static void parts() {
        Due.promise("PARTS 0 .. 9; sets of them are told as bits (0 .. 1023)");
        FerriedInWords x = at(0, Due.TELLER, 0, 99);
        x.sheet(0, Due.BYTES, 1);
        for (int part = 0; part <= 9; part++) Due.due("part " + part, x.asks(0, 1 << part, 0), 1 << part);
        for (int set : new int[] {0, 1023}) {
            Due.due("asks", x.asks(0, set, 0), set);
            Due.due("over", x.over(0, set, 0), set);
            Due.due("fro", x.fro(set, 1), set);
            Due.due("row", x.row(set, 1, 1), 0);
            Due.due("learn", x.learn(set, 0), 0);
            Due.due("from", x.from(set, 1), set);
        }
        for (int set : NO_SETS) {
            Due.due("asks of " + set, x.asks(0, set, 0), -2);
            Due.due("over of " + set, x.over(0, set, 0), -2);
            Due.due("fro of " + set, x.fro(set, 1), -2);
            Due.due("row of " + set, x.row(set, 1, 1), -2);
            Due.due("learn of " + set, x.learn(set, 0), -2);
            Due.due("from of " + set, x.from(set, 1), -2);
            Due.due("brings of " + set, x.brings(set), -2);
            Due.due("words of " + set, x.set(2, 0, set), -2);
            Due.due("a person's words of " + set, x.person(0, 0, set, 0), -2);
        }
    }

    private static void day() {
        Due.promise("DAY (0 .. 999; 0 at first)");
        FerriedInWords x = new FerriedInWords();
        Due.due("at first", x.told(0, 0), 0);
        Due.due("999", x.set(0, 0, 999), 0);
        for (int v : new int[] {1000, -1, Due.MAX, Due.MIN}) Due.due("" + v, x.set(0, 0, v), -2);
        Due.due("it is 999", x.told(0, 0), 999);
        Due.due("a day more", x.day(), -3);
        Due.due("0", x.set(0, 0, 0), 999);
        Due.due("it is 0", x.told(0, 0), 0);
        x.set(0, 0, 998);
        Due.due("the last day", x.day(), -1);
        Due.due("it is 999 by a day", x.told(0, 0), 999);
    }

    private static void people() {
        Due.promise("PEOPLE (5 at most, numbered from 0)");
        FerriedInWords x = new FerriedInWords();
        Due.due("one numbered 0, ahead of all", x.told(0, 5), -1000);
        for (int i = 0; i < 5; i++) {
            Due.due("one comes", x.person(Due.FATHER, i, 0, 0), i);
            Due.due("the number " + i, x.told(i, 1), i);
            Due.due("nobody behind", x.told(i + 1, 1), -1000);
        }
        Due.due("a sixth", x.person(Due.FATHER, 5, 0, 0), -4);
        Due.due("five are there", x.count(0), 5);
        Due.due("nobody is numbered 5", x.told(5, 5), -1000);
        Due.due("nobody is numbered -1", x.told(-1, 5), -1000);
    }

    private static void kinds() {
        Due.promise("a KIND: 0 TELLER .. 5 PLAIN");
        for (int kind = 0; kind < 6; kind++) {
            FerriedInWords x = new FerriedInWords();
            for (int wrong : new int[] {-1, 6, Due.MIN, Due.MAX}) Due.due("kind " + wrong, x.person(wrong, 0, 0, 0), -2);
            Due.due("kind " + kind, x.person(kind, 0, 0, 0), 0);
            Due.due("told", x.told(0, 5), kind);
        }
    }

    /** What is told of one, from 0 to the most; the other numbers of the person are their least and their most. */
    private static void ofOne(int what, String sentence, int most) {
        Due.promise(sentence);
        int[] least = {0, 0, 0, 0};
        int[] all = {5, 9, 1023, 99};
        for (int[] rest : new int[][] {least, all}) {
            FerriedInWords x = new FerriedInWords();
            int number = 0;
            for (int v : new int[] {-1, most + 1, Due.MIN, Due.MAX}) {
                Due.due("person with " + v, personWith(x, rest, what, v), -2);
            }
            for (int v : new int[] {0, most}) {
                Due.due("person with " + v, personWith(x, rest, what, v), number);
                Due.due("told", x.told(number, what), v);
                Due.due("set to " + (most - v), x.set(what, number, most - v), v);
                for (int w : new int[] {-1, most + 1, Due.MIN, Due.MAX}) Due.due("set to " + w, x.set(what, number, w), -2);
                Due.due("it is", x.told(number, what), most - v);
                number++;
            }
        }
    }

    private static int personWith(FerriedInWords x, int[] rest, int what, int v) {
        int[] p = rest.clone();
        p[what] = v;
        return x.person(p[0], p[1], p[2], p[3]);
    }

    private static void said() {
        Due.promise("SAID: how many things one told (0 .. 99; 0 as one comes)");
        FerriedInWords x = new FerriedInWords();
        x.image();
        x.person(Due.TELLER, 9, 1023, 99);
        Due.due("as one comes", x.told(0, 4), 0);
        Due.due("99", x.set(4, 0, 99), 0);
        for (int v : new int[] {100, -1, Due.MAX, Due.MIN}) Due.due("" + v, x.set(4, 0, v), -2);
        Due.due("it is 99", x.told(0, 4), 99);
        x.person(Due.TELLER, 9, 1023, 99);
        Due.due("as another one comes", x.told(1, 4), 0);
        x.back();
        x.person(Due.TELLER, 9, 1023, 99);
        Due.due("as one comes where one was", x.told(0, 4), 0);
        x.set(4, 0, 50);
        Due.due("0", x.set(4, 0, 0), 50);
        Due.lists(x, 0, Due.BYTES, 0, 0, 0, 99);
        x.back();
        x.person(Due.TELLER, 9, 1023, 99);
        x.set(4, 0, 3);
        x.back();
        Due.due("by a sheet", x.crew(0, Due.BYTES, 0, 1), 1);
        Due.due("as one comes by a sheet", x.told(0, 4), 0);
    }

    private static void theJetty() {
        Due.promise("THE JETTY: up to 8 THINGS (none at first)");
        FerriedInWords x = new FerriedInWords();
        Due.due("at first", x.told(0, 7), 0);
        Due.due("the first one, ahead of all", x.told(0, 6), -1000);
        for (int i = 1; i <= 8; i++) Due.due("thing " + i, x.brings(i), i);
        Due.due("a ninth", x.brings(9), -4);
        Due.due("there are 8", x.told(0, 7), 8);
        Due.due("the last one", x.told(7, 6), 8);
        Due.due("none behind it", x.told(8, 6), -1000);
        Due.due("none ahead of the first", x.told(-1, 6), -1000);
        for (int i = 1; i <= 8; i++) x.day();
        Due.due("empty again", x.told(0, 7), 0);
        for (int i = 1; i <= 8; i++) Due.due("thing " + i + " anew", x.brings(i), i);
        Due.due("a ninth", x.brings(9), -4);
    }

    private static void things() {
        Due.promise("THINGS (sets, of one PART at least)");
        FerriedInWords x = new FerriedInWords();
        Due.due("of no part", x.brings(0), -2);
        Due.due("nothing came", x.count(1), 0);
        Due.due("of part 0", x.brings(1), 1);
        Due.due("of part 9", x.brings(512), 2);
        Due.due("of all", x.brings(1023), 3);
    }

    private static void oneBehindTheOther() {
        Due.promise("up to 8 THINGS, one behind the other");
        FerriedInWords x = new FerriedInWords();
        for (int i = 0; i < 8; i++) x.brings(100 + i);
        for (int i = 0; i < 8; i++) Due.due("place " + i, x.told(i, 6), 100 + i);
        for (int i = 0; i < 8; i++) {
            Due.due("comes over", x.day(), 100 + i);
            Due.due("the next one is first", x.told(0, 6), i < 7 ? 101 + i : -1000);
        }
    }

    private static void comeOver() {
        Due.promise("COME OVER: how many did (0 .. 999; 0)");
        FerriedInWords x = new FerriedInWords();
        Due.due("at first", x.told(0, 8), 0);
        x.brings(1);
        Due.due("it waits", x.told(0, 8), 0);
        for (int i = 1; i <= 169; i++) {
            x.day();
            Due.due("come over", x.told(0, 8), i);
            x.brings(1);
        }
    }

    private static void constants() {
        Due.promise("NONE is -1; NO -4611686018427387904; BAD -2, STATE -3, FULL -4");
        FerriedInWords x = new FerriedInWords();
        Due.due("NONE", FerriedInWords.NONE, -1);
        Due.due("NONE, answered", x.day(), -1);
        Due.due("NO", FerriedInWords.NO, -4611686018427387904L);
        Due.due("NO, answered", x.mean(0), -4611686018427387904L);
        Due.due("BAD", FerriedInWords.BAD, -2);
        Due.due("BAD, answered", x.count(6), -2);
        Due.due("STATE", FerriedInWords.STATE, -3);
        Due.due("STATE, answered", x.back(), -3);
        Due.due("FULL", FerriedInWords.FULL, -4);
        for (int i = 0; i < 160; i++) x.feed(32);
        Due.due("FULL, answered", x.feed(32), -4);
    }

    /** Keeps telling v is, by TEXT 0, the memory. */
    private static void keeps(int day, int kind, int... memoryAndDue) {
        FerriedInWords x = at(day, kind, 0, 0);
        for (int i = 0; i < memoryAndDue.length; i += 2) {
            x.set(3, 0, memoryAndDue[i]);
            Due.due("kind " + kind + " on day " + day + " keeps by " + memoryAndDue[i], x.asks(0, 1023, 1), memoryAndDue[i + 1]);
        }
    }

    private static void keepsOfEach() {
        Due.promise("KEEPS, TELLER: v (0 .. 10, else the bound)");
        keeps(0, Due.TELLER, 0, 0, 1, 1, 9, 9, 10, 10, 11, 10, 99, 10);
        Due.promise("KEEPS, FATHER: 1 more than a TELLER");
        keeps(0, Due.FATHER, 0, 1, 8, 9, 9, 10, 10, 10, 99, 10);
        Due.promise("KEEPS, ENGINEER: twice a TELLER's");
        keeps(0, Due.ENGINEER, 0, 0, 1, 2, 4, 8, 5, 10, 6, 10, 99, 10);
        Due.promise("KEEPS, LIAR: as a FATHER");
        keeps(0, Due.LIAR, 0, 1, 8, 9, 9, 10, 10, 10, 99, 10);
        Due.promise("KEEPS, LOVER: all 10, if DAY modulo 4 is 0, else as an ENGINEER");
        for (int day : new int[] {0, 4, 8, 996}) keeps(day, Due.LOVER, 0, 10, 1, 10, 99, 10);
        for (int day : new int[] {1, 2, 3, 5, 995, 997, 998, 999}) keeps(day, Due.LOVER, 0, 0, 1, 2, 4, 8, 5, 10, 6, 10, 99, 10);
        Due.promise("KEEPS, PLAIN: half (cut) of a TELLER's; quotients are cut toward 0");
        keeps(0, Due.PLAIN, 0, 0, 1, 0, 2, 1, 3, 1, 19, 9, 20, 10, 21, 10, 22, 10, 99, 10);
    }

    private static void keepsIsLaidOnce() {
        Due.promise("(0 .. 10, else the bound: laid once, on what comes out.)");
        keeps(0, Due.PLAIN, 10, 5, 11, 5, 12, 6, 18, 9, 20, 10);
        keeps(0, Due.FATHER, 99, 10);
        keeps(1, Due.LOVER, 99, 10);
        FerriedInWords x = at(0, Due.TELLER, 0, 99);
        Due.due("all 10 are told", x.asks(0, 1023, 0), 1023);
        FerriedInWords y = at(0, Due.TELLER, 0, 0);
        Due.due("none of 0 is told", y.asks(0, 1023, 0), 0);
    }

    private static void plainKeepsAheadOfLeavingOut() {
        Due.promise("What a PLAIN one KEEPS is taken ahead of leaving out PARTS above 4");
        FerriedInWords x = at(0, Due.PLAIN, 0, 4);
        x.set(2, 0, Due.bits(4, 5, 6));
        Due.due("4 and 5 are kept, 5 is left out", x.asks(0, 1023, 0), Due.bits(4));
        Due.due("5 and 6 are kept, both are left out", x.asks(0, Due.bits(5, 6), 0), 0);
        Due.due("how many are kept", x.asks(0, Due.bits(5, 6), 1), 2);
    }

    private static void tellerTells() {
        Due.promise("TELLER: of its PARTS for which one has WORDS the first, as many as one KEEPS");
        FerriedInWords x = at(0, Due.TELLER, 0, 0);
        Due.due("keeps none", x.asks(0, 1023, 0), 0);
        x.set(3, 0, 1);
        Due.due("the first", x.asks(0, 1023, 0), 1);
        Due.due("the first of 8, 9", x.asks(0, 768, 0), 256);
        Due.due("of no part", x.asks(0, 0, 0), 0);
        x.set(3, 0, 9);
        Due.due("all but the last", x.asks(0, 1023, 0), 511);
        x.set(2, 0, 0);
        Due.due("no words", x.asks(0, 1023, 0), 0);
        x.set(2, 0, 512);
        Due.due("a word for the last", x.asks(0, 1023, 0), 512);
        Due.due("none for the others", x.asks(0, 511, 0), 0);
    }

    private static void fatherTells() {
        Due.promise("FATHER: that, and PART NUMBER");
        for (int number : new int[] {0, 9}) {
            FerriedInWords x = at(0, Due.FATHER, number, 0);
            Due.due("of no part", x.asks(0, 0, 0), 1 << number);
            Due.due("of all", x.asks(0, 1023, 0), 1 | 1 << number);
            Due.due("of that part", x.asks(0, 1 << number, 0), 1 << number);
            x.set(2, 0, 0);
            Due.due("without words", x.asks(0, 1023, 0), 1 << number);
        }
    }

    private static void engineerTells() {
        Due.promise("ENGINEER: of each the next PART (of 9 none), if it is of the thing");
        FerriedInWords x = at(0, Due.ENGINEER, 0, 1);
        x.set(2, 0, 512);
        Due.due("of 9", x.asks(0, 1023, 0), 512);
        x.set(2, 0, 256);
        Due.due("of 8 the last", x.asks(0, 1023, 0), 768);
        Due.due("it isn't of the thing", x.asks(0, 511, 0), 256);
        x.set(2, 0, Due.bits(0, 2));
        Due.due("of each", x.asks(0, 1023, 0), 15);
        Due.due("of nothing told none", x.asks(0, Due.bits(1, 3), 0), 0);
        x.set(3, 0, 0);
        Due.due("keeps none", x.asks(0, 1023, 0), 0);
    }

    private static void liarTells() {
        Due.promise("LIAR: what a FATHER tells, but PART (9 less NUMBER) turned round in it");
        for (int number = 0; number <= 9; number++) {
            FerriedInWords x = at(0, Due.LIAR, number, 9);
            int own = 1 << number;
            int turned = 1 << 9 - number;
            Due.due("of no part, number " + number, x.asks(0, 0, 0), own | turned);
            Due.due("of all, number " + number, x.asks(0, 1023, 0), 1023 & ~turned);
        }
    }

    private static void loverTells() {
        Due.promise("LOVER: if any is of that, all PARTS one has WORDS for that are less than the first of that");
        FerriedInWords x = at(0, Due.LOVER, 0, 0);
        Due.due("none is of that", x.asks(0, 0, 0), 0);
        Due.due("the first is 0", x.asks(0, 1, 0), 1);
        Due.due("the first is 1", x.asks(0, 2, 0), 3);
        Due.due("the first is 9", x.asks(0, 512, 0), 1023);
        x.set(2, 0, Due.bits(0, 4, 9));
        Due.due("those with words", x.asks(0, 512, 0), Due.bits(0, 4, 9));
        Due.due("not those that are more", x.asks(0, 16, 0), Due.bits(0, 4));
        Due.due("none is of that, for lack of words", x.asks(0, 8, 0), 0);
        x.set(0, 0, 1);
        Due.due("none is of that, for lack of memory", x.asks(0, 512, 0), 0);
    }

    private static void plainTells() {
        Due.promise("PLAIN: no PART above 4");
        FerriedInWords x = at(0, Due.PLAIN, 0, 99);
        Due.due("of all", x.asks(0, 1023, 0), 31);
        Due.due("part 4", x.asks(0, 16, 0), 16);
        Due.due("part 5", x.asks(0, 32, 0), 0);
        Due.due("part 0", x.asks(0, 1, 0), 1);
    }

    private static void tires(int kind, int number, String tires, int due) {
        FerriedInWords x = Due.with(kind, number, Due.ALL, 5);
        Due.rules(x, "5", tires, "0");
        Due.due("kind " + kind + ", number " + number + " tires by " + tires, x.asks(0, 1023, 2), due);
    }

    private static void tiresOfEach() {
        Due.promise("TIRES, TELLER: v");
        tires(Due.TELLER, 7, "0", 0);
        tires(Due.TELLER, 7, "99", 99);
        Due.promise("TIRES, FATHER: 0");
        tires(Due.FATHER, 7, "0", 0);
        tires(Due.FATHER, 7, "99", 0);
        Due.promise("TIRES, ENGINEER: 1 more than a TELLER");
        tires(Due.ENGINEER, 7, "0", 1);
        tires(Due.ENGINEER, 7, "98", 99);
        Due.promise("TIRES, LIAR: NUMBER");
        tires(Due.LIAR, 0, "99", 0);
        tires(Due.LIAR, 9, "0", 9);
        Due.promise("TIRES, LOVER: half (cut) of an ENGINEER's; quotients are cut toward 0");
        tires(Due.LOVER, 7, "0", 0);
        tires(Due.LOVER, 7, "1", 1);
        tires(Due.LOVER, 7, "2", 1);
        tires(Due.LOVER, 7, "98", 49);
        tires(Due.LOVER, 7, "99", 50);
    }

    private static void tiresCanBe100() {
        Due.promise("TIRES can be 100 for an ENGINEER");
        tires(Due.ENGINEER, 7, "99", 100);
        tires(Due.ENGINEER, 7, "100", 100);
        FerriedInWords x = Due.with(Due.ENGINEER, 0, Due.ALL, 99);
        Due.rules(x, "5", "99", "0");
        x.brings(1);
        x.day();
        Due.due("memory is less by it", x.told(0, 3), 0);
    }

    private static void plainTires() {
        Due.promise("TIRES, PLAIN: as a TELLER, if SAID is even, else 0");
        FerriedInWords x = Due.with(Due.PLAIN, 7, Due.ALL, 5);
        Due.rules(x, "5", "99", "0");
        for (int said : new int[] {0, 1, 2, 3, 97, 98, 99}) {
            x.set(4, 0, said);
            Due.due("at said " + said, x.asks(0, 1023, 2), said % 2 == 0 ? 99 : 0);
        }
    }

    private static void learnsIfItIsNot0() {
        Due.promise("learns telling yes, if it isn't 0");
        int[] yes = {1, 0, 1, 1, 1, 0};
        for (int kind = 0; kind < 6; kind++) {
            FerriedInWords x = Due.with(kind, 0, 0, 0);
            Due.rules(x, "0", "0", "said");
            for (int said : new int[] {0, 1, 2, 98, 99}) {
                x.set(4, 0, said);
                Due.due("kind " + kind + " learns by " + said, x.asks(0, 3, 3), said == 0 ? 0 : yes[kind]);
            }
        }
    }

    private static void learnsOfOnePart() {
        Due.promise("LEARNS, ENGINEER: if yes, or the thing has but one PART; LOVER: as an ENGINEER");
        for (int kind = 0; kind < 6; kind++) {
            FerriedInWords x = Due.with(kind, 0, 0, 0);
            boolean byOne = kind == Due.ENGINEER || kind == Due.LOVER;
            Due.due("kind " + kind + " of no part", x.asks(0, 0, 3), 0);
            for (int part = 0; part < 10; part++) Due.due("kind " + kind + " of one", x.asks(0, 1 << part, 3), byOne ? 1 : 0);
            Due.due("kind " + kind + " of two", x.asks(0, 513, 3), 0);
            Due.due("kind " + kind + " of all", x.asks(0, 1023, 3), 0);
        }
    }

    private static void learnsThoughNoneIsLacking() {
        Due.promise("Whether one LEARNS is told also of a thing of which no PART is lacking");
        for (int kind : new int[] {Due.TELLER, Due.ENGINEER, Due.LIAR, Due.LOVER}) {
            FerriedInWords x = Due.with(kind, 0, 7, 5);
            Due.rules(x, "5", "0", "1");
            Due.due("none is lacking", x.asks(0, 7, 3), 1);
            Due.due("there is none", x.asks(0, 0, 3), 1);
            x.brings(7);
            x.day();
            Due.due("the words stay", x.told(0, 2), 7);
        }
    }
}
