/** Promises 1 to 29 at their edges: the least and the largest that is allowed, empty and full. RefusalTest goes beyond. */
public final class EdgesTest {
    private static final String KEEPS_ONE = "keeps1;tires2;learns3;";

    public static void main(String[] args) {
        aNewObject();
        setOfOneAlone();
        setOfDay();
        personFull();
        toldOfAll();
        toldOfDoesNotMatter();
        bringsFull();
        asks();
        feed();
        text();
        force();
        over();
        day();
        runDays();
        runWhat();
        runInThought();
        fro();
        row();
        learn();
        from();
        mean();
        tells();
        filmWhole();
        filmOnAnySheet();
        drawnAndChance();
        imageAndBack();
        countEmptyAndFull();
        sheetSizes();
        sheetMissing();
        sheetAnew();
        cellPlaces();
        cellBits();
        copyAtTheEnds();
        copyAsTheyWere();
        crewMany();
        crewPlaces();
        crewWhatStoodAhead();
        taken();
        Due.end();
    }

    private static FerriedInWords full() {
        FerriedInWords x = new FerriedInWords();
        for (int kind = 0; kind < 5; kind++) x.person(kind, 9, 1023, 99);
        for (int i = 1; i <= 8; i++) x.brings(i);
        return x;
    }

    private static void aNewObject() {
        Due.promise("1: Nobody, nothing on THE JETTY");
        FerriedInWords x = new FerriedInWords();
        for (int one = 0; one < 5; one++) {
            for (int what = 1; what <= 5; what++) Due.due("told", x.told(one, what), -1000);
            for (int what = 0; what < 4; what++) Due.due("asks", x.asks(one, 0, what), -2);
            Due.due("set", x.set(1, one, 0), -2);
            Due.due("film", x.film(0, one), -2);
            Due.due("taken", x.taken(one, 0), -11);
            Due.due("run", x.run(0, 10 + one), -1000);
        }
        for (int place = 0; place < 8; place++) Due.due("thing", x.told(place, 6), -1000);
        for (int what = 0; what < 6; what++) Due.due("count " + what, x.count(what), what == 3 ? 1 : 0);
    }

    private static void setOfOneAlone() {
        Due.promise("2: of one of PEOPLE becomes v: what it was");
        int[] most = {0, 9, 1023, 99, 99};
        for (int what = 1; what <= 4; what++) {
            for (int one = 0; one < 5; one++) {
                FerriedInWords x = full();
                Due.due("set", x.set(what, one, 0), what == 4 ? 0 : most[what]);
                Due.due("set again", x.set(what, one, most[what]), 0);
                Due.due("set once more", x.set(what, one, 1), most[what]);
                for (int other = 0; other < 5; other++) {
                    for (int w = 1; w <= 4; w++) {
                        int due = other == one && w == what ? 1 : w == 4 ? 0 : most[w];
                        Due.due("told of " + other + ", " + w, x.told(other, w), due);
                    }
                    Due.due("kind of " + other, x.told(other, 5), other);
                }
            }
        }
    }

    private static void setOfDay() {
        Due.promise("2: DAY (what 0; of does not matter)");
        FerriedInWords x = new FerriedInWords();
        int was = 0;
        for (int of : new int[] {0, -1, 5, Due.MAX, Due.MIN}) {
            Due.due("set by " + of, x.set(0, of, 999), was);
            Due.due("set by " + of, x.set(0, of, 0), 999);
            Due.due("set by " + of, x.set(0, of, 1000), -2);
            Due.due("set by " + of, x.set(0, of, -1), -2);
        }
    }

    private static void personFull() {
        Due.promise("3: One of PEOPLE: the number; FULL");
        FerriedInWords x = new FerriedInWords();
        for (int i = 0; i < 5; i++) Due.due("one", x.person(i, 0, 0, 0), i);
        Due.due("one more", x.person(0, 0, 0, 0), -4);
        Due.due("one more, the most", x.person(5, 9, 1023, 99), -4);
        Due.due("the last one", x.told(4, 5), 4);
    }

    private static void toldOfAll() {
        Due.promise("4: told: 0 .. 4 as of set(), 5 KIND, 6 the THING at a place (from 0), 7, 8; -1000: none such");
        FerriedInWords x = full();
        x.set(0, 0, 999);
        for (int one = 0; one < 5; one++) {
            int[] due = {999, 9, 1023, 99, 0, one};
            for (int what = 0; what <= 5; what++) Due.due("told of " + one + ", " + what, x.told(one, what), due[what]);
        }
        for (int place = 0; place < 8; place++) Due.due("thing " + place, x.told(place, 6), place + 1);
        Due.due("how many", x.told(0, 7), 8);
        Due.due("come over", x.told(0, 8), 0);
        for (int of : new int[] {-1, 5, 6, Due.MAX, Due.MIN}) {
            for (int what = 1; what <= 5; what++) Due.due("told of " + of, x.told(of, what), -1000);
        }
        for (int place : new int[] {-1, 8, Due.MAX, Due.MIN}) Due.due("thing " + place, x.told(place, 6), -1000);
        for (int what : new int[] {-1, 9, 10, Due.MAX, Due.MIN}) Due.due("told " + what, x.told(0, what), -1000);
    }

    private static void toldOfDoesNotMatter() {
        Due.promise("4: 7 how many there are (of does not matter), 8 COME OVER (nor); 0 as of set()");
        FerriedInWords x = new FerriedInWords();
        x.brings(1);
        x.brings(2);
        x.brings(3);
        x.day();
        for (int of : new int[] {0, -1, 5, 8, 1000, Due.MAX, Due.MIN}) {
            Due.due("day by " + of, x.told(of, 0), 1);
            Due.due("how many by " + of, x.told(of, 7), 2);
            Due.due("come over by " + of, x.told(of, 8), 1);
        }
    }

    private static void bringsFull() {
        Due.promise("5: A THING comes last on THE JETTY: how many there are; FULL");
        FerriedInWords x = full();
        Due.due("one more", x.brings(1023), -4);
        x.day();
        Due.due("there is room", x.brings(1023), 8);
        Due.due("it is last", x.told(7, 6), 1023);
        Due.due("one more", x.brings(1), -4);
    }

    private static void asks() {
        Due.promise("6: Of one and a thing (0 .. 1023)");
        FerriedInWords x = full();
        x.set(1, 3, 4);
        int[] ofNone = {0, 512, 0, Due.bits(4, 5), 0};
        int[] ofAll = {1023, 1023, 1023, 1023 & ~32, 1023};
        int[] tires = {0, 0, 1, 4, 0};
        for (int one = 0; one < 5; one++) {
            Due.due("tells of 0, " + one, x.asks(one, 0, 0), ofNone[one]);
            Due.due("tells of 1023, " + one, x.asks(one, 1023, 0), ofAll[one]);
            Due.due("keeps, " + one, x.asks(one, 0, 1), 10);
            Due.due("tires, " + one, x.asks(one, 1023, 2), tires[one]);
            Due.due("learns, " + one, x.asks(one, 1023, 3), 0);
        }
        FerriedInWords y = Due.with(Due.PLAIN, 0, 1023, 99);
        Due.due("tells of 0", y.asks(0, 0, 0), 0);
        Due.due("tells of 1023", y.asks(0, 1023, 0), 31);
    }

    private static void feed() {
        Due.promise("7: A byte (0 .. 255) comes behind THE TAPE: how many it has");
        FerriedInWords x = new FerriedInWords();
        Due.due("0", x.feed(0), 1);
        Due.due("255", x.feed(255), 2);
        for (int b : new int[] {-1, 256, Due.MAX, Due.MIN}) Due.due("" + b, x.feed(b), -2);
        for (int i = 3; i <= 160; i++) Due.due("byte", x.feed(i), i);
        for (int b : new int[] {0, 32, 255}) Due.due("behind the last, " + b, x.feed(b), -4);
        for (int b : new int[] {-1, 256, Due.MAX, Due.MIN}) Due.due("behind the last, " + b, x.feed(b), -2);
        Due.due("160 are there", x.count(4), 160);
    }

    private static void text() {
        Due.promise("8: THE TAPE, which is empty then (by a FAULT, too), is a TEXT: its number");
        FerriedInWords x = new FerriedInWords();
        for (int i = 1; i <= 5; i++) {
            Due.due("an empty tape", x.text(), -100);
            Due.due("a fault at the end", Due.reads(x, "keeps"), -105);
            Due.due("it is empty", x.count(4), 0);
            Due.due("a fault ahead of it", Due.reads(x, "keeps ?1"), -106);
            Due.due("it is empty", x.count(4), 0);
            Due.due("a text", Due.reads(x, KEEPS_ONE), i);
            Due.due("it is empty", x.count(4), 0);
        }
        Due.due("none has room", Due.reads(x, KEEPS_ONE), -4);
        Due.due("it stays", x.count(4), KEEPS_ONE.length());
        FerriedInWords y = new FerriedInWords();
        Due.due("the last place of a fault", Due.reads(y, " ".repeat(160)), -260);
        Due.due("the place ahead of it", Due.reads(y, " ".repeat(159) + "1"), -259);
    }

    private static void force() {
        Due.promise("9: A TEXT is THE RULE: which was");
        FerriedInWords x = new FerriedInWords();
        Due.due("0", x.force(0), 0);
        Due.due("1, that isn't there", x.force(1), -2);
        for (int i = 1; i <= 5; i++) Due.reads(x, KEEPS_ONE);
        Due.due("5", x.force(5), 0);
        Due.due("0", x.force(0), 5);
        for (int t : new int[] {-1, 6, Due.MAX, Due.MIN}) Due.due("" + t, x.force(t), -2);
        Due.due("it stays", x.count(5), 0);
    }

    private static void over() {
        Due.promise("10: A thing (0 .. 1023), told by the ROW a SHEET tells (of 0, 1, 40 numbers)");
        FerriedInWords x = Due.with(Due.FATHER, 9, 255, 9);
        for (int size : new int[] {0, 1, 40}) {
            for (int sort = 0; sort < 3; sort++) {
                x.sheet(sort, sort, size);
                Due.due("of 0", x.over(sort, 0, 0), size == 0 ? 0 : 512);
                Due.due("of 0, off", x.over(sort, 0, 1), size == 0 ? 0 : 1);
                Due.due("of 0, lost", x.over(sort, 0, 2), 0);
                Due.due("of 0, made up", x.over(sort, 0, 3), size == 0 ? 0 : 512);
                Due.due("of 1023", x.over(sort, 1023, 0), size == 0 ? 1023 : 767);
                Due.due("of 1023, off", x.over(sort, 1023, 1), size == 0 ? 0 : 1);
                Due.due("of 1023, lost", x.over(sort, 1023, 2), size == 0 ? 0 : 256);
                Due.due("of 1023, made up", x.over(sort, 1023, 3), 0);
            }
        }
        Due.promise("10: BAD: it tells who isn't there (the last of 40)");
        x.cell(2, 39, 1);
        Due.due("one behind", x.over(2, 0, 0), -2);
        x.cell(2, 39, -1);
        Due.due("one ahead", x.over(2, 0, 0), -2);
        x.cell(2, 39, 0);
        Due.due("one who is", x.over(2, 0, 0), 512);
        FerriedInWords y = full();
        Due.lists(y, 0, Due.BYTES, 4, 0);
        Due.due("the last of five", y.over(0, 1, 0), 1);
        Due.lists(y, 0, Due.BYTES, 0, 5);
        Due.due("one behind the last of five", y.over(0, 1, 0), -2);
        FerriedInWords z = new FerriedInWords();
        z.sheet(0, Due.BYTES, 1);
        Due.due("one, where nobody is", z.over(0, 1, 0), -2);
    }

    private static void day() {
        Due.promise("11: STATE: DAY is 999");
        FerriedInWords x = full();
        x.set(0, 0, 998);
        Due.due("the last day, of 9 with all that is less", x.day(), 1023);
        String was = Due.all(x);
        for (int i = 0; i < 3; i++) Due.due("no day more", x.day(), -3);
        Due.same("all", Due.all(x), was);
        x.set(0, 0, 0);
        Due.due("the first day, of 1 with 0 and 9 made up", x.day(), Due.bits(0, 1, 9));
        FerriedInWords y = new FerriedInWords();
        y.set(0, 0, 999);
        Due.due("with nobody and nothing there", y.day(), -3);
        y.set(0, 0, 998);
        Due.due("the last day", y.day(), -1);
        Due.due("no day more", y.day(), -3);
    }

    private static void runDays() {
        Due.promise("12: n DAYS (0 .. 20), in thought: what came over last (NONE: nothing), how many did");
        FerriedInWords x = new FerriedInWords();
        for (int n : new int[] {0, 1, 20}) {
            Due.due("nothing in " + n, x.run(n, 0), -1);
            Due.due("how many", x.run(n, 1), 0);
        }
        for (int i = 1; i <= 8; i++) x.brings(100 + i);
        for (int n = 0; n <= 20; n++) {
            Due.due("last in " + n, x.run(n, 0), n == 0 ? -1 : 100 + Math.min(n, 8));
            Due.due("how many in " + n, x.run(n, 1), Math.min(n, 8));
        }
        for (int n : new int[] {-1, 21, Due.MAX, Due.MIN}) {
            Due.due("in " + n, x.run(n, 0), -1000);
            Due.due("in " + n, x.run(n, 1), -1000);
        }
    }

    private static void runWhat() {
        Due.promise("12: WORDS of one numbered what less 10 then (10 ..), MEMORY of one numbered what less 20 then (20 ..)");
        FerriedInWords x = new FerriedInWords();
        for (int there = 0; there <= 5; there++) {
            for (int what = -2; what <= 32; what++) {
                int due = -1000;
                if (what == 0) due = -1;
                if (what == 1) due = 0;
                if (what >= 10 && what < 10 + there) due = 100 + what;
                if (what >= 20 && what < 20 + there) due = what;
                Due.due("what " + what + " of " + there, x.run(0, what), due);
            }
            x.person(Due.TELLER, 0, 110 + there, 20 + there);
        }
        for (int what : new int[] {Due.MAX, Due.MIN, Due.MIN + 10, Due.MIN + 20}) Due.due("what " + what, x.run(0, what), -1000);
    }

    private static void runInThought() {
        Due.promise("12: in thought (there DAY may pass 999)");
        FerriedInWords x = Due.with(Due.LOVER, 0, 1023, 0);
        Due.rules(x, "0", "day-990", "0");
        x.set(0, 0, 999);
        x.set(3, 0, 99);
        for (int i = 0; i < 8; i++) x.brings(512);
        String was = Due.all(x);
        Due.due("day 999", x.run(1, 0), 0);
        Due.due("day 1000, of which the rest by 4 is 0", x.run(2, 0), 1023);
        Due.due("day 1001", x.run(3, 0), 0);
        Due.due("tired by half of 10 and of 11", x.run(2, 20), 89);
        Due.due("20 days", x.run(20, 1), 8);
        Due.same("all", Due.all(x), was);
        Due.due("truly it doesn't", x.day(), -3);
    }

    private static void fro() {
        Due.promise("13: TO AND FRO, of things 0 and 1023");
        FerriedInWords x = full();
        x.set(1, 1, 0);
        x.set(1, 3, 1);
        Due.due("of 0", x.fro(0, 0), 3);
        Due.due("of 0, what it is", x.fro(0, 1), Due.bits(0, 1, 8));
        Due.due("of 1023", x.fro(1023, 0), 2);
        Due.due("of 1023, what it is", x.fro(1023, 1), 1023);
        for (int what : new int[] {-1, 2, Due.MAX, Due.MIN}) Due.due("what " + what, x.fro(0, what), -2);
    }

    private static void row() {
        Due.promise("14: ROW, n 1 .. 3, of things 0 and 1023");
        FerriedInWords x = full();
        for (int n = 1; n <= 3; n++) {
            for (int thing : new int[] {0, 1023}) {
                Due.due("row", x.row(thing, n, 0), 1);
                Due.due("off", x.row(thing, n, 1), 0);
                Due.due("what -1", x.row(thing, n, -1), -2);
                Due.due("what 2", x.row(thing, n, 2), -2);
            }
        }
        for (int n : new int[] {0, 4, -1, Due.MAX, Due.MIN}) Due.due("n " + n, x.row(0, n, 0), -2);
    }

    private static void learn() {
        Due.promise("15: LEARN (what 0; bits; NONE), how many (1; NONE), of things 0 and 1023");
        FerriedInWords x = Due.with(Due.TELLER, 0, 0, 10);
        Due.due("of 0", x.learn(0, 0), 0);
        Due.due("of 0, how many", x.learn(0, 1), 0);
        Due.due("of 1023", x.learn(1023, 0), 1023);
        Due.due("of 1023, how many", x.learn(1023, 1), 10);
        x.set(3, 0, 9);
        Due.due("of 1023, one is lost", x.learn(1023, 0), -1);
        Due.due("of 1023, one is lost, how many", x.learn(1023, 1), -1);
        for (int what : new int[] {-1, 2, Due.MAX, Due.MIN}) Due.due("what " + what, x.learn(0, what), -2);
        Due.due("the words stay", x.told(0, 2), 0);
    }

    private static void from() {
        Due.promise("16: FROM: how many (what 0), the least (1; NONE), of things 0 and 1023");
        FerriedInWords x = Due.with(Due.TELLER, 0, 1023, 10);
        Due.due("of 0", x.from(0, 0), 1);
        Due.due("of 0, the least", x.from(0, 1), 0);
        Due.due("of 1023", x.from(1023, 0), 1);
        Due.due("of 1023, the least", x.from(1023, 1), 1023);
        x.set(2, 0, 0);
        Due.due("of 0", x.from(0, 0), 1024);
        Due.due("of 1023", x.from(1023, 0), 0);
        Due.due("of 1023, the least", x.from(1023, 1), -1);
        for (int what : new int[] {-1, 2, Due.MAX, Due.MIN}) Due.due("what " + what, x.from(0, what), -2);
    }

    private static void mean() {
        Due.promise("17: NO: part, there are none");
        FerriedInWords x = new FerriedInWords();
        for (int part = -1; part <= 2; part++) Due.due("part " + part + " of nobody", x.mean(part), FerriedInWords.NO);
        x.image();
        for (int kind = 0; kind < 5; kind++) x.person(kind, 0, 1023, 0);
        Due.due("above", x.mean(0), 10);
        Due.due("below", x.mean(1), 1);
        for (int part : new int[] {-1, 2, Due.MAX, Due.MIN}) Due.due("part " + part, x.mean(part), FerriedInWords.NO);
        x.back();
        Due.due("nobody any more", x.mean(0), FerriedInWords.NO);
    }

    private static void tells() {
        Due.promise("18: TOLD BACK (what 0 .. 8) of one, the first and the last of five, by SHEETS 0 and 3");
        FerriedInWords x = full();
        for (int sheet : new int[] {0, 3}) {
            for (int one : new int[] {0, 4}) {
                x.film(sheet, one);
                Due.due("otherwise", x.tells(sheet, one, 0), -1);
                Due.due("kinds", x.tells(sheet, one, 1) >> x.told(one, 5) & 1, 1);
                Due.due("numbers", x.tells(sheet, one, 2), 1023);
                Due.due("memories", x.tells(sheet, one, 3), one == 4 ? 100 : 99);
                Due.due("the least memory", x.tells(sheet, one, 4), one == 4 ? 0 : 1);
                Due.due("words", x.tells(sheet, one, 5), 1);
                Due.due("the least words", x.tells(sheet, one, 6), 1023);
                Due.due("texts", x.tells(sheet, one, 7), 1);
                Due.due("people", x.tells(sheet, one, 8) >> one & 1, 1);
            }
        }
        for (int what : new int[] {-1, 9, Due.MAX, Due.MIN}) Due.due("what " + what, x.tells(0, 0, what), -2);
        for (int one : new int[] {-1, 5, Due.MAX, Due.MIN}) Due.due("of " + one, x.tells(0, one, 0), -2);
    }

    private static void filmWhole() {
        Due.promise("19: how many of them are told whole");
        FerriedInWords x = Due.with(Due.TELLER, 0, 1023, 1);
        Due.due("all", x.film(0, 0), 10);
        x.set(3, 0, 0);
        Due.due("none", x.film(0, 0), 0);
        x.set(3, 0, 99);
        x.set(2, 0, 512);
        Due.due("the last", x.film(0, 0), 1);
        Due.holds(x, 0, Due.SHORTS, 1, 0, 0, 0, 0, 0, 0, 0, 0, 0, 512);
        x.set(2, 0, 1);
        Due.due("the first", x.film(0, 0), 1);
        Due.holds(x, 0, Due.SHORTS, 1, 1, 0, 0, 0, 0, 0, 0, 0, 0, 0);
        FerriedInWords y = Due.with(Due.FATHER, 9, 1023, 1);
        Due.due("that alone to which nothing is made up", y.film(0, 0), 1);
        Due.holds(y, 0, Due.SHORTS, 1, 513, 514, 516, 520, 528, 544, 576, 640, 768, 512);
    }

    private static void filmOnAnySheet() {
        Due.promise("19: A SHEET truly becomes what one TELLS (shorts), whatever it was");
        for (int sheet = 0; sheet <= 3; sheet++) {
            for (int sort = -1; sort < 3; sort++) {
                FerriedInWords x = full();
                x.sheet(sheet, sort, 40);
                Due.due("film", x.film(sheet, 4), 1);
                Due.due("ten numbers", x.copy(sheet, 0, sheet, 0, 10), 10);
                Due.due("no eleventh", x.copy(sheet, 0, sheet, 0, 11), -12);
                Due.due("shorts", x.crew(sheet, Due.SHORTS, 0, 0), 0);
                Due.due("as the last one tells", x.tells(sheet, 4, 0), -1);
                Due.due("not as the first one", x.tells(sheet, 0, 0), 1);
            }
        }
    }

    private static void drawnAndChance() {
        Due.promise("20: DRAWN, n 0 .. 40");
        FerriedInWords x = Due.with(Due.TELLER, 0, 1023, 99);
        for (int seed : new int[] {0, Due.MAX, Due.MIN}) for (int n : new int[] {0, 1, 40}) Due.due("drawn", x.drawn(seed, n), 0);
        for (int n : new int[] {-1, 41, Due.MAX, Due.MIN}) Due.due("n " + n, x.drawn(0, n), -2);
        Due.promise("21: IN m seeds 1 .. 40, k 0 .. 10, part 0 and 1");
        for (int seed : new int[] {0, Due.MAX, Due.MIN}) {
            for (int m : new int[] {1, 40}) {
                for (int k : new int[] {0, 10}) {
                    for (int part : new int[] {0, 1}) Due.due("chance", x.chance(seed, m, k, part), 1);
                }
            }
        }
    }

    private static void imageAndBack() {
        Due.promise("22, 23: AN IMAGE is kept; STATE: there is none");
        FerriedInWords x = new FerriedInWords();
        Due.due("there is none", x.back(), -3);
        Due.due("still none", x.back(), -3);
        Due.due("of nobody", x.image(), 0);
        Due.due("of nobody, back", x.back(), 0);
        for (int i = 1; i <= 5; i++) {
            x.person(0, 0, 0, 0);
            Due.due("of " + i, x.image(), i);
            Due.due("of " + i + ", back", x.back(), i);
        }
        x.set(2, 4, 7);
        Due.due("the first back", x.back(), 5);
        Due.due("it is as it was", x.told(4, 2), 0);
        x.set(2, 4, 7);
        Due.due("the image stays", x.back(), 5);
        Due.due("it is as it was", x.told(4, 2), 0);
    }

    private static void countEmptyAndFull() {
        Due.promise("24: How many: PEOPLE, THINGS, DAY, TEXTS, bytes of THE TAPE, THE RULE");
        FerriedInWords x = new FerriedInWords();
        int[] least = {0, 0, 0, 1, 0, 0};
        int[] most = {5, 8, 999, 6, 160, 5};
        for (int what = 0; what < 6; what++) Due.due("least of " + what, x.count(what), least[what]);
        for (int i = 0; i < 5; i++) x.person(0, 0, 0, 0);
        for (int i = 0; i < 8; i++) x.brings(1);
        x.set(0, 0, 999);
        for (int i = 0; i < 5; i++) Due.reads(x, KEEPS_ONE);
        for (int i = 0; i < 160; i++) x.feed(0);
        x.force(5);
        for (int what = 0; what < 6; what++) Due.due("most of " + what, x.count(what), most[what]);
        for (int what : new int[] {-1, 6, Due.MAX, Due.MIN}) Due.due("count " + what, x.count(what), -2);
    }

    private static void sheetSizes() {
        Due.promise("25: A SHEET becomes a row of n of a sort, all 0 (n 0 .. 40)");
        for (int sheet = 0; sheet <= 3; sheet++) {
            for (int sort = 0; sort < 3; sort++) {
                FerriedInWords x = new FerriedInWords();
                Due.due("of 40", x.sheet(sheet, sort, 40), 1);
                Due.holds(x, sheet, sort, (sheet + 1) % 4, new int[40]);
                Due.due("of 1", x.sheet(sheet, sort, 1), 1);
                Due.holds(x, sheet, sort, (sheet + 1) % 4, 0);
                Due.due("of 0", x.sheet(sheet, sort, 0), 1);
                Due.holds(x, sheet, sort, (sheet + 1) % 4);
                Due.due("item 0 of 0", x.cell(sheet, 0, 0), -12);
                Due.due("it isn't missing", x.copy(sheet, 0, sheet, 0, 0), 0);
                for (int n : new int[] {41, Due.MAX}) Due.due("of " + n, x.sheet(sheet, sort, n), -2);
                for (int n : new int[] {-1, Due.MIN}) Due.due("of " + n, x.sheet(sheet, sort, n), -14);
            }
        }
    }

    private static void sheetMissing() {
        Due.promise("25: or missing (sort -1: n does not matter): 1");
        for (int n : new int[] {0, 1, 40, 41, -1, Due.MAX, Due.MIN}) {
            FerriedInWords x = new FerriedInWords();
            Due.due("missing as it was, n " + n, x.sheet(0, -1, n), 1);
            Due.due("it is missing", x.cell(0, 0, 0), -11);
            x.sheet(0, Due.INTS, 40);
            Due.due("missing now, n " + n, x.sheet(0, -1, n), 1);
            Due.due("it is missing", x.copy(0, 0, 0, 0, 0), -11);
        }
    }

    private static void sheetAnew() {
        Due.promise("25: all 0, whatever it was");
        FerriedInWords x = new FerriedInWords();
        int[] seven = {7, 7, 7, 7, 7, 7};
        for (int sort = 0; sort < 3; sort++) {
            Due.lists(x, 0, sort, seven);
            x.sheet(0, sort, 6);
            Due.holds(x, 0, sort, 1, 0, 0, 0, 0, 0, 0);
            Due.lists(x, 0, sort, seven);
            x.sheet(0, -1, 6);
            x.sheet(0, sort, 2);
            Due.holds(x, 0, sort, 1, 0, 0);
            x.sheet(0, sort, 6);
            Due.holds(x, 0, sort, 1, 0, 0, 0, 0, 0, 0);
        }
    }

    private static void cellPlaces() {
        Due.promise("26: Item i of a SHEET becomes v: 1; -12");
        for (int size : new int[] {1, 40}) {
            FerriedInWords x = new FerriedInWords();
            x.sheet(0, Due.INTS, size);
            for (int i = 0; i < size; i++) Due.due("item " + i, x.cell(0, i, 100 + i), 1);
            for (int i : new int[] {-1, size, 40, 41, Due.MAX, Due.MIN}) Due.due("item " + i, x.cell(0, i, 1), -12);
            Due.due("the first", Due.held(x, 0, Due.INTS, 0, 1), 100);
            Due.due("the last", Due.held(x, 0, Due.INTS, size - 1, 1), 99 + size);
        }
    }

    private static void cellBits() {
        Due.promise("26: (of bytes its lowest 8 bits)");
        FerriedInWords x = new FerriedInWords();
        Due.lists(x, 0, Due.BYTES, 0, 127, 255 + 1, 256 + 127, -256, -255, -129, 0x7FFFFF00, 0x80000005);
        Due.holds(x, 0, Due.BYTES, 1, 0, 127, 0, 127, 0, 1, 127, 0, 5);
        Due.promise("26: (of shorts its lowest 16 bits)");
        Due.lists(x, 0, Due.SHORTS, 0, 1023, 65536, 65536 + 1023, -65536, -65535, 0x7FFF0000, 0x80000005);
        Due.holds(x, 0, Due.SHORTS, 1, 0, 1023, 0, 1023, 0, 1, 0, 5);
        Due.promise("26: (of ints all)");
        Due.lists(x, 0, Due.INTS, 0, 1023, 256, 65536, Due.MIN);
        Due.holds(x, 0, Due.INTS, 1, 0, 1023, 256, -1, -1);
        Due.promise("26: (of bytes, shorts), with their sign");
        FerriedInWords y = Due.with(Due.FATHER, 7, 0, 0);
        for (int sort = 0; sort < 3; sort++) {
            Due.lists(y, sort, sort, 128);
            Due.due("128 as sort " + sort, y.tells(sort, 0, 0), sort == Due.BYTES ? 0 : -1);
            y.cell(sort, 0, 65536 + 128);
            Due.due("65664 as sort " + sort, y.tells(sort, 0, 0), sort == Due.SHORTS ? -1 : 0);
        }
    }

    private static void copyAtTheEnds() {
        Due.promise("27: n numbers of a SHEET, from item i on, come to another one's item j on: n");
        FerriedInWords x = new FerriedInWords();
        x.sheet(0, Due.BYTES, 40);
        x.sheet(1, Due.BYTES, 40);
        for (int i = 0; i < 40; i++) x.cell(0, i, i + 1);
        Due.due("none from the end", x.copy(0, 40, 1, 40, 0), 0);
        Due.due("none beyond the end", x.copy(0, 41, 1, 0, 0), -12);
        Due.due("none to beyond the end", x.copy(0, 0, 1, 41, 0), -12);
        Due.due("none ahead of the first", x.copy(0, -1, 1, 0, 0), -12);
        Due.due("none to ahead of the first", x.copy(0, 0, 1, -1, 0), -12);
        Due.due("below 0", x.copy(0, 1, 1, 1, -1), -12);
        Due.due("41", x.copy(0, 0, 1, 0, 41), -12);
        Due.due("40 from the second", x.copy(0, 1, 1, 0, 40), -12);
        Due.due("40 to the second", x.copy(0, 0, 1, 1, 40), -12);
        Due.due("nothing came", Due.held(x, 1, Due.BYTES, 0, 2), 0);
        Due.due("the last to the first", x.copy(0, 39, 1, 0, 1), 1);
        Due.due("the first to the last", x.copy(0, 0, 1, 39, 1), 1);
        Due.due("the first is", Due.held(x, 1, Due.BYTES, 0, 2), 40);
        Due.due("the last is", Due.held(x, 1, Due.BYTES, 39, 2), 1);
        Due.due("the second is", Due.held(x, 1, Due.BYTES, 1, 2), 0);
        Due.due("all 40", x.copy(0, 0, 1, 0, 40), 40);
        for (int i : new int[] {0, 1, 20, 38, 39}) Due.due("item " + i, Due.held(x, 1, Due.BYTES, i, 2), i + 1);
        x.sheet(2, Due.BYTES, 0);
        Due.due("none of none", x.copy(2, 0, 2, 0, 0), 0);
        Due.due("one of none", x.copy(2, 0, 1, 0, 1), -12);
        Due.due("one to none", x.copy(1, 0, 2, 0, 1), -12);
    }

    private static void copyAsTheyWere() {
        Due.promise("27: (as they were)");
        FerriedInWords x = new FerriedInWords();
        for (int sort = 0; sort < 3; sort++) {
            Due.lists(x, 0, sort, 1, 2, 3, 4);
            Due.due("one nearer the end", x.copy(0, 0, 0, 1, 3), 3);
            Due.holds(x, 0, sort, 1, 1, 1, 2, 3);
            Due.lists(x, 0, sort, 1, 2, 3, 4);
            Due.due("one nearer the first", x.copy(0, 1, 0, 0, 3), 3);
            Due.holds(x, 0, sort, 1, 2, 3, 4, 4);
            Due.due("to itself", x.copy(0, 0, 0, 0, 4), 4);
            Due.holds(x, 0, sort, 1, 2, 3, 4, 4);
        }
    }

    private static void crewMany() {
        Due.promise("28: n of them (0 .. 5): how many came (others are left out)");
        for (int sort = 0; sort < 3; sort++) {
            for (int n = 0; n <= 5; n++) {
                FerriedInWords x = new FerriedInWords();
                Due.lists(x, 0, sort, 5, 9, 100, 99, 0, 0, 0, 0, 4, 1, 2, 3, 3, 4, 5, 6, 2, 7, 8, 9);
                Due.due("crew of " + n, x.crew(0, sort, 0, n), n);
                Due.due("are there", x.count(0), n);
                if (n == 0) continue;
                int[] first = {9, 100, 99, 0, 5};
                for (int what = 1; what <= 5; what++) Due.due("the first's " + what, x.told(0, what), first[what - 1]);
            }
        }
        FerriedInWords x = Due.with(Due.TELLER, 0, 0, 0);
        x.sheet(0, Due.SHORTS, 20);
        Due.due("four have room", x.crew(0, Due.SHORTS, 0, 5), 4);
        Due.due("none has room", x.crew(0, Due.SHORTS, 0, 5), 0);
        Due.due("none is asked", x.crew(0, Due.SHORTS, 0, 0), 0);
        FerriedInWords y = new FerriedInWords();
        Due.lists(y, 0, Due.SHORTS, 6, 0, 0, 0, 0, 10, 0, 0, 0, 0, 1024, 0, 0, 0, 0, 100, 5, 9, 1023, 99);
        Due.due("the last alone", y.crew(0, Due.SHORTS, 0, 5), 1);
        Due.due("its kind", y.told(0, 5), Due.PLAIN);
        FerriedInWords z = new FerriedInWords();
        Due.lists(z, 0, Due.SHORTS, -1, 0, 0, 0, 0, -1, 0, 0, 0, 0, -1, 0, 0, 0, 0, -1, 0, 0, 0, 0);
        Due.due("the last alone", z.crew(0, Due.SHORTS, 0, 5), 1);
    }

    private static void crewPlaces() {
        Due.promise("28: from one on, four by four; -12");
        FerriedInWords x = new FerriedInWords();
        x.sheet(0, Due.BYTES, 40);
        x.image();
        int[][] fromNAndDue = {{0, 5, 5}, {20, 5, 5}, {21, 5, -12}, {36, 1, 1}, {37, 1, -12}, {36, 2, -12}, {39, 1, -12}, {40, 1, -12}, {41, 1, -12},
            {-1, 1, -12}, {-4, 2, -12}, {Due.MAX, 1, -12}, {Due.MIN, 1, -12}, {0, 1, 1}, {1, 5, 5}};
        for (int[] f : fromNAndDue) {
            x.back();
            Due.due("crew from " + f[0] + " of " + f[1], x.crew(0, Due.BYTES, f[0], f[1]), f[2]);
        }
        x.sheet(1, Due.BYTES, 3);
        Due.due("of three numbers", x.crew(1, Due.BYTES, 0, 1), -12);
        x.sheet(1, Due.BYTES, 0);
        Due.due("of no number", x.crew(1, Due.BYTES, 0, 1), -12);
        Due.due("of no number, nobody", x.crew(1, Due.BYTES, 0, 0), 0);
    }

    private static void crewWhatStoodAhead() {
        Due.promise("28: -12: what stood ahead came");
        for (int size = 0; size < 20; size++) {
            FerriedInWords x = new FerriedInWords();
            x.sheet(0, Due.INTS, size);
            Due.due("five of " + size + " numbers", x.crew(0, Due.INTS, 0, 5), -12);
            Due.due("came", x.count(0), size / 4);
        }
        FerriedInWords y = new FerriedInWords();
        Due.lists(y, 0, Due.INTS, 9, 9, 9, 9, 1, 2, 3, 4, 0, 0, 0);
        Due.due("one is left out, one comes, one is outside", y.crew(0, Due.INTS, 0, 3), -12);
        Due.due("came", y.count(0), 1);
        Due.due("with words", y.told(0, 2), 3);
    }

    private static void taken() {
        Due.promise("29: One of PEOPLE taken for one of KIND k (0 .. 5), or one under that one (also by others between): the NUMBER");
        int[] above = {-1, 0, 0, 1, 2, 0};
        for (int kind = 0; kind < 6; kind++) {
            for (int number : new int[] {0, 9}) {
                FerriedInWords x = new FerriedInWords();
                for (int i = 0; i < 5; i++) x.person(kind, number, 0, 0);
                for (int k = 0; k < 6; k++) {
                    boolean is = false;
                    for (int up = kind; up >= 0; up = above[up]) is = is || up == k;
                    for (int one : new int[] {0, 4}) Due.due("kind " + kind + " taken for " + k, x.taken(one, k), is ? number : -13);
                }
            }
        }
    }
}
