/** The Terms' second and third part: each sentence that names a boundary case has a test of its own, which bears its words. */
public final class TellingsTest {
    private static final String KEEPS_ONE = "keeps1;tires2;learns3;";

    public static void main(String[] args) {
        nobodyTellsIt();
        oneMayBeThereAgain();
        nobodyTiresOrLearns();
        ifThereIsAny();
        memoryIs0AtLeast();
        saidIs99AtMost();
        allToldAhead();
        oneNearer();
        comeOverIs999AtMost();
        dayIsOneMore();
        off();
        toAndFroAtFirstToo();
        toAndFroTimes();
        toAndFroFar();
        rowOfOneToThree();
        rowOfLikeOnes();
        rowOfNobody();
        learnFewest();
        learnOfLikeOnes();
        learnNone();
        learnWithNobody();
        from();
        fromNone();
        toldBackOfTen();
        toldBackOfNone();
        toldBackFirstOtherwise();
        toldBackKindsAndNumbers();
        toldBackMemories();
        toldBackWords();
        toldBackTexts();
        toldBackPeople();
        drawnTimes();
        drawnWraps();
        inSeeds();
        inSeedsWraps();
        inSeedsOrLess();
        mean();
        imageOfTheLeastAndTheMost();
        peopleThatCameSinceGo();
        sheetsAreMissingAtFirst();
        sheetsOfSorts();
        Due.end();
    }

    private static FerriedInWords ofFive(int kind, int number, int words, int memory) {
        FerriedInWords x = new FerriedInWords();
        for (int i = 0; i < 5; i++) x.person(kind, number, words, memory);
        return x;
    }

    private static void nobodyTellsIt() {
        Due.promise("TOLD by a ROW: nobody: it");
        FerriedInWords x = new FerriedInWords();
        x.sheet(0, Due.BYTES, 0);
        for (int thing : new int[] {0, 1, 512, 1023}) {
            for (int what = 0; what < 4; what++) Due.due("over " + thing, x.over(0, thing, what), what == 0 ? thing : 0);
            Due.due("fro", x.fro(thing, 0), 1);
            Due.due("fro, what it is", x.fro(thing, 1), thing);
            Due.due("from", x.from(thing, 0), 1);
            Due.due("from, the least", x.from(thing, 1), thing);
            if (thing == 0) continue;
            x.brings(thing);
            Due.due("run", x.run(1, 0), thing);
            Due.due("day", x.day(), thing);
        }
        Due.due("drawn", x.drawn(1, 40), 0);
        x.person(Due.TELLER, 0, 0, 0);
        for (int what = 0; what < 4; what++) Due.due("a row of none of them", x.over(0, 7, what), what == 0 ? 7 : 0);
    }

    private static void oneMayBeThereAgain() {
        Due.promise("a ROW (one may be there again)");
        FerriedInWords x = Due.with(Due.LIAR, 0, Due.ALL, 99);
        Due.lists(x, 0, Due.BYTES, 0);
        Due.due("once", x.over(0, 1, 0), Due.bits(0, 9));
        Due.lists(x, 0, Due.BYTES, 0, 0);
        Due.due("twice", x.over(0, 1, 0), Due.bits(0));
        x.sheet(0, Due.BYTES, 39);
        Due.due("39 times", x.over(0, 1, 0), Due.bits(0, 9));
        x.sheet(0, Due.BYTES, 40);
        Due.due("40 times", x.over(0, 1, 0), Due.bits(0));
        for (int i = 0; i < 4; i++) x.person(Due.TELLER, 0, Due.ALL, 99);
        Due.lists(x, 1, Due.INTS, 0, 4, 0, 4, 0);
        Due.due("one and another", x.over(1, 1, 0), Due.bits(0, 9));
    }

    private static void nobodyTiresOrLearns() {
        Due.promise("TOLD by a ROW: nobody TIRES, LEARNS");
        FerriedInWords x = Due.with(Due.ENGINEER, 9, 0, 99);
        Due.rules(x, "10", "99", "1");
        x.sheet(0, Due.BYTES, 40);
        String was = Due.all(x);
        for (int thing : new int[] {0, 1, 1023}) {
            x.over(0, thing, 0);
            x.fro(thing, 0);
            x.row(thing, 3, 0);
            x.learn(thing, 0);
            x.from(thing, 0);
        }
        x.drawn(1, 40);
        x.chance(1, 40, 0, 0);
        x.film(1, 0);
        x.tells(1, 0, 5);
        Due.same("all", Due.all(x), was);
    }

    private static void ifThereIsAny() {
        Due.promise("A DAY: the first THING on THE JETTY, if there is any");
        FerriedInWords x = Due.with(Due.TELLER, 0, 0, 50);
        Due.rules(x, "10", "1", "1");
        Due.due("nothing is there", x.day(), -1);
        Due.due("nobody learns", x.told(0, 2), 0);
        Due.due("nobody tires", x.told(0, 3), 50);
        Due.due("nobody said it", x.told(0, 4), 0);
        Due.due("nothing came over", x.told(0, 8), 0);
        Due.due("it is a day", x.told(0, 0), 1);
        x.brings(1);
        Due.due("one is there, of which nothing is told", x.day(), 0);
        Due.due("one learns", x.told(0, 2), 1);
        Due.due("one tires", x.told(0, 3), 49);
        Due.due("one said it", x.told(0, 4), 1);
        Due.due("it came over", x.told(0, 8), 1);
    }

    private static void memoryIs0AtLeast() {
        Due.promise("MEMORY is less by what one TIRES (0 at least)");
        int[][] memoryTiresAndDue = {{10, 9, 1}, {10, 10, 0}, {10, 11, 0}, {0, 1, 0}, {0, 0, 0}, {99, 99, 0}, {99, 0, 99}, {99, 98, 1}, {1, 99, 0}};
        for (int[] m : memoryTiresAndDue) {
            FerriedInWords x = Due.with(Due.TELLER, 0, Due.ALL, m[0]);
            Due.rules(x, "10", "" + m[1], "0");
            x.brings(1);
            Due.due(m[0] + " less " + m[1] + " in thought", x.run(1, 20), m[2]);
            x.day();
            Due.due(m[0] + " less " + m[1], x.told(0, 3), m[2]);
        }
        FerriedInWords x = Due.with(Due.ENGINEER, 0, Due.ALL, 99);
        Due.rules(x, "10", "99", "0");
        x.brings(1);
        x.day();
        Due.due("99 less 100", x.told(0, 3), 0);
    }

    private static void saidIs99AtMost() {
        Due.promise("SAID is 1 more (99 at most)");
        FerriedInWords x = Due.with(Due.TELLER, 0, Due.ALL, 5);
        Due.rules(x, "said-90", "0", "0");
        int[] ahead = {0, 97, 98, 99};
        int[] behind = {1, 98, 99, 99};
        for (int i = 0; i < 4; i++) {
            x.set(4, 0, ahead[i]);
            x.brings(1);
            x.day();
            Due.due("behind " + ahead[i], x.told(0, 4), behind[i]);
        }
        x.set(4, 0, 98);
        for (int i = 0; i < 3; i++) x.brings(1023);
        Due.due("keeps by 98", x.run(1, 0), 255);
        Due.due("keeps by 99", x.run(2, 0), 511);
        Due.due("keeps by 99 still", x.run(3, 0), 511);
    }

    private static void allToldAhead() {
        Due.promise("TELLS, LEARNS, TIRES all told ahead, of what one is told");
        FerriedInWords x = Due.with(Due.TELLER, 0, Due.bits(0), 10);
        x.person(Due.TELLER, 0, Due.bits(1), 10);
        Due.rules(x, "memory-9+said", "parts", "1-said");
        x.brings(3);
        Due.due("told without the words that are learnt by it", x.day(), 0);
        Due.due("the first one learns 1", x.told(0, 2), 3);
        Due.due("and tires by 2 parts", x.told(0, 3), 8);
        Due.due("the second one is told 0, and learns it", x.told(1, 2), 3);
        Due.due("and tires by 1 part", x.told(1, 3), 9);
        FerriedInWords y = Due.with(Due.TELLER, 0, Due.bits(0), 10);
        Due.rules(y, "10*(words=1)", "words+9*said", "memory=10");
        y.brings(7);
        Due.due("tells by the words ahead", y.day(), 1);
        Due.due("tires by the words and by said ahead", y.told(0, 3), 9);
        Due.due("learns by the memory ahead", y.told(0, 2), 3);
        FerriedInWords z = Due.with(Due.TELLER, 0, Due.ALL, 10);
        Due.rules(z, "memory-9", "said+4", "said=0");
        z.set(2, 0, 1022);
        z.brings(1023);
        Due.due("tells by the memory ahead", z.day(), 2);
        Due.due("tires by said ahead", z.told(0, 3), 6);
        Due.due("learns by said ahead", z.told(0, 2), 1023);
        FerriedInWords d = Due.with(Due.TELLER, 0, Due.ALL, 10);
        Due.rules(d, "day+1", "day", "day");
        d.set(2, 0, 1022);
        d.brings(1023);
        Due.due("tells by the day ahead", d.day(), 2);
        Due.due("tires by the day ahead", d.told(0, 3), 10);
        Due.due("learns by the day ahead", d.told(0, 2), 1022);
    }

    private static void oneNearer() {
        Due.promise("it isn't there any more, all others are one nearer");
        FerriedInWords x = new FerriedInWords();
        for (int i = 1; i <= 8; i++) x.brings(i);
        for (int gone = 1; gone <= 8; gone++) {
            x.day();
            Due.due("how many", x.told(0, 7), 8 - gone);
            for (int i = 0; i < 8; i++) Due.due("place " + i, x.told(i, 6), i + gone < 8 ? i + gone + 1 : -1000);
        }
    }

    /** No 512 calls bring so many over: the bound is looked at behind them. */
    private static void comeOverIs999AtMost() {
        Due.promise("one more is COME OVER (999 at most)");
        FerriedInWords x = new FerriedInWords();
        for (int i = 1; i <= 1002; i++) {
            x.set(0, 0, 0);
            x.brings(1);
            x.day();
            if (i > 996) Due.due("behind " + i, x.told(0, 8), Math.min(i, 999));
        }
    }

    private static void dayIsOneMore() {
        Due.promise("DAY is 1 more");
        FerriedInWords x = new FerriedInWords();
        for (int day = 1; day <= 20; day++) {
            if (day % 3 == 0) x.brings(1);
            x.day();
            Due.due("told", x.told(0, 0), day);
        }
        x.set(0, 0, 997);
        x.day();
        Due.due("998", x.told(0, 0), 998);
        x.day();
        Due.due("999", x.told(0, 0), 999);
    }

    private static void off() {
        Due.promise("OFF: how many PARTS are of one of them alone");
        FerriedInWords x = Due.with(Due.TELLER, 0, 0, 0);
        x.sheet(0, Due.BYTES, 1);
        x.sheet(1, Due.BYTES, 0);
        Due.due("all of one", x.over(0, 1023, 1), 10);
        Due.due("one of one", x.over(0, 512, 1), 1);
        Due.due("none", x.over(0, 0, 1), 0);
        Due.due("like ones", x.over(1, 1023, 1), 0);
        FerriedInWords y = Due.with(Due.FATHER, 9, 0, 0);
        y.sheet(0, Due.BYTES, 1);
        Due.due("all of one, none of the other", y.over(0, 511, 1), 10);
        Due.due("one of the other", y.over(0, 0, 1), 1);
    }

    private static void toAndFroAtFirstToo() {
        Due.promise("TO AND FRO: as it was any time ahead, at first, too");
        FerriedInWords x = Due.with(Due.LIAR, 0, Due.ALL, 99);
        Due.due("there and back", x.fro(1, 0), 2);
        Due.due("as at first", x.fro(1, 1), 1);
        Due.due("not as at first", x.fro(0, 0), 3);
        Due.due("as behind the first time", x.fro(0, 1), Due.bits(0, 9));
    }

    private static void toAndFroTimes() {
        Due.promise("TO AND FRO: behind how many times (1 .. 60)");
        FerriedInWords x = Due.with(Due.TELLER, 0, Due.ALL, 0);
        Due.rules(x, "parts-1", "0", "0");
        Due.due("once", x.fro(0, 0), 1);
        Due.due("once, what it is", x.fro(0, 1), 0);
        for (int parts = 1; parts <= 10; parts++) {
            Due.due("of " + parts, x.fro((1 << parts) - 1, 0), parts + 1);
            Due.due("of " + parts + ", what it is", x.fro((1 << parts) - 1, 1), 0);
        }
    }

    /** The longest way that a search among people and texts has found: none that ends in NONE is known. */
    private static void toAndFroFar() {
        Due.promise("TO AND FRO: behind how many times (1 .. 60), of many");
        FerriedInWords x = new FerriedInWords();
        String odd = "(parts*8192*8192*32<0)";
        Due.rules(x, "memory+said*" + odd + "+2*(parts=6)-memory*(parts=9)-words*(parts=2)+4*(parts=8)+said*(parts=10)", "0", "0");
        x.set(0, 0, 1);
        int[][] people = {{Due.LOVER, 6, 1021, 6, 17}, {Due.ENGINEER, 7, 989, 3, 12}, {Due.FATHER, 9, 1023, 1, 7},
            {Due.LIAR, 8, 767, 1, 6}, {Due.FATHER, 7, 1023, 2, 12}};
        for (int i = 0; i < 5; i++) {
            int[] p = people[i];
            x.person(p[0], p[1], p[2], p[3]);
            x.set(4, i, p[4]);
        }
        int[][] thingTimesAndIs = {{889, 53, 897}, {500, 44, 903}, {1000, 35, 909}, {0, 32, 898}, {400, 32, 927}};
        for (int[] t : thingTimesAndIs) {
            Due.due("of " + t[0], x.fro(t[0], 0), t[1]);
            Due.due("of " + t[0] + ", what it is", x.fro(t[0], 1), t[2]);
        }
    }

    private static void rowOfOneToThree() {
        Due.promise("ROW (a thing, n 1 .. 3): of all ROWS of 1 to n, nobody twice");
        FerriedInWords x = Due.with(Due.LIAR, 9, Due.bits(7), 2);
        x.person(Due.TELLER, 0, 0, 2);
        x.person(Due.LIAR, 2, Due.bits(7, 8, 9), 2);
        int thing = Due.bits(2, 7, 9);
        Due.due("of one", x.row(thing, 1, 0), 3);
        Due.due("of one, off", x.row(thing, 1, 1), 1);
        Due.due("of two", x.row(thing, 2, 0), 3);
        Due.due("of two, off", x.row(thing, 2, 1), 1);
        Due.due("of three", x.row(thing, 3, 0), 213);
        Due.due("of three, off", x.row(thing, 3, 1), 0);
        for (int n : new int[] {0, 4, -1}) Due.due("of " + n, x.row(thing, n, 0), -2);
        FerriedInWords y = Due.with(Due.LIAR, 0, Due.ALL, 99);
        for (int n = 1; n <= 3; n++) {
            Due.due("one alone, of " + n, y.row(1, n, 0), 1);
            Due.due("one alone, of " + n + ", off", y.row(1, n, 1), 1);
        }
        y.person(Due.LIAR, 0, Due.ALL, 99);
        Due.due("two of like kind, of 1", y.row(1, 1, 0), 1);
        for (int n = 2; n <= 3; n++) Due.due("two of like kind, of " + n, y.row(1, n, 0), 12);
        FerriedInWords z = ofFive(Due.TELLER, 0, 0, 0);
        z.set(2, 4, 1);
        z.set(3, 4, 1);
        Due.due("the last of five", z.row(1, 3, 0), 5);
    }

    private static void rowOfLikeOnes() {
        Due.promise("ROW: of like ones the shortest, of these the first by the first one, then the next one");
        FerriedInWords x = ofFive(Due.TELLER, 0, Due.ALL, 99);
        for (int n = 1; n <= 3; n++) Due.due("the shortest", x.row(1023, n, 0), 1);
        x.set(2, 0, 0);
        Due.due("the first one", x.row(1023, 3, 0), 2);
        FerriedInWords y = ofFive(Due.LIAR, 4, Due.ALL, 99);
        Due.due("then the next one", y.row(16, 3, 0), 12);
        y.set(1, 0, 0);
        Due.due("then the next one, the first one not", y.row(16, 3, 0), 23);
        y.set(1, 1, 1);
        y.set(1, 2, 2);
        Due.due("the last two", y.row(16, 3, 0), 45);
        Due.due("off", y.row(16, 3, 1), 0);
    }

    private static void rowOfNobody() {
        Due.promise("ROW: NONE both: nobody is there");
        FerriedInWords x = new FerriedInWords();
        x.image();
        for (int n = 1; n <= 3; n++) {
            for (int thing : new int[] {0, 1023}) {
                Due.due("row of nobody", x.row(thing, n, 0), -1);
                Due.due("off", x.row(thing, n, 1), -1);
            }
        }
        x.person(Due.TELLER, 0, 0, 0);
        Due.due("one is there", x.row(1023, 3, 0), 1);
        Due.due("off the most", x.row(1023, 3, 1), 10);
        x.back();
        Due.due("nobody any more", x.row(1023, 3, 0), -1);
        Due.due("off", x.row(1023, 3, 1), -1);
    }

    private static void learnFewest() {
        Due.promise("LEARN: the set of fewest PARTS such that, had all PEOPLE WORDS for these, too");
        FerriedInWords x = ofFive(Due.TELLER, 0, Due.ALL, 99);
        Due.due("none", x.learn(1023, 0), 0);
        Due.due("none, how many", x.learn(1023, 1), 0);
        x.set(2, 4, 1022);
        Due.due("one", x.learn(1023, 0), 1);
        Due.due("one, how many", x.learn(1023, 1), 1);
        for (int i = 0; i < 5; i++) x.set(2, i, 1023 & ~(3 << 2 * i));
        Due.due("all", x.learn(1023, 0), 1023);
        Due.due("all, how many", x.learn(1023, 1), 10);
        Due.due("those of the thing", x.learn(513, 0), 513);
        Due.due("none of none", x.learn(0, 0), 0);
    }

    private static void learnOfLikeOnes() {
        Due.promise("LEARN: of like ones the least as bits");
        FerriedInWords x = Due.with(Due.TELLER, 0, Due.bits(9), 0);
        Due.rules(x, "words-1", "0", "0");
        Due.due("any part more", x.learn(512, 0), 1);
        x.set(2, 0, Due.bits(0, 1));
        Due.rules(x, "words-4", "0", "0");
        Due.due("any three parts more", x.learn(1, 0), Due.bits(2, 3, 4));
        Due.due("how many", x.learn(1, 1), 3);
        Due.due("fewest ahead of least", x.learn(Due.bits(0, 9), 0), Due.bits(2, 3, 4, 9));
        Due.due("how many", x.learn(Due.bits(0, 9), 1), 4);
    }

    private static void learnNone() {
        Due.promise("LEARN: NONE");
        FerriedInWords x = Due.with(Due.TELLER, 0, Due.ALL, 9);
        Due.due("all but one is kept", x.learn(1023, 0), -1);
        Due.due("how many", x.learn(1023, 1), -1);
        FerriedInWords y = Due.with(Due.FATHER, 9, 0, 0);
        Due.due("one is made up", y.learn(0, 0), -1);
        Due.due("how many", y.learn(0, 1), -1);
    }

    private static void learnWithNobody() {
        Due.promise("LEARN with nobody there is 0");
        FerriedInWords x = new FerriedInWords();
        for (int thing : new int[] {0, 1, 1023}) {
            Due.due("learn", x.learn(thing, 0), 0);
            Due.due("learn, how many", x.learn(thing, 1), 0);
        }
    }

    private static void from() {
        Due.promise("FROM: of all things (0 .. 1023) how many are told by all by numbers as that; the least");
        FerriedInWords x = Due.with(Due.TELLER, 0, 0, 0);
        Due.due("of all, 0 and 1023, too", x.from(0, 0), 1024);
        Due.due("the least is 0", x.from(0, 1), 0);
        x.set(2, 0, 1023);
        x.set(3, 0, 10);
        for (int thing : new int[] {0, 512, 1022, 1023}) {
            Due.due("of itself alone", x.from(thing, 0), 1);
            Due.due("the least", x.from(thing, 1), thing);
        }
        x.set(3, 0, 9);
        Due.due("of 1023 and 511", x.from(511, 0), 2);
        Due.due("the least", x.from(511, 1), 511);
    }

    private static void fromNone() {
        Due.promise("FROM: NONE");
        FerriedInWords x = Due.with(Due.TELLER, 0, Due.ALL, 9);
        Due.due("how many", x.from(1023, 0), 0);
        Due.due("the least", x.from(1023, 1), -1);
        FerriedInWords y = Due.with(Due.FATHER, 9, 0, 0);
        Due.due("how many", y.from(0, 0), 0);
        Due.due("the least", y.from(0, 1), -1);
    }

    private static void tell(FerriedInWords x, int sheet, int one, int... due) {
        for (int what = 0; what < due.length; what++) Due.due("tells of " + one + ", " + what, x.tells(sheet, one, what), due[what]);
    }

    private static void toldBackOfTen() {
        Due.promise("a SHEET tells what one TELLS of things 1, 2, 4, .. (10 at most numbers)");
        FerriedInWords x = Due.with(Due.TELLER, 0, Due.ALL, 1);
        for (int sort = 0; sort < 3; sort++) {
            for (int n = 0; n <= 12; n++) {
                x.sheet(0, sort, n);
                Due.due("of " + n + " all 0", x.tells(0, 0, 0), n > 10 ? -2 : n == 0 ? -1 : 0);
            }
        }
        x.sheet(0, Due.INTS, 40);
        Due.due("of 40", x.tells(0, 0, 0), -2);
        Due.lists(x, 0, Due.SHORTS, 1, 2, 4, 8, 16, 32, 64, 128, 256, 512);
        tell(x, 0, 0, -1, 5, 1023, 99, 1, 1, 1023, 1, 1);
    }

    private static void toldBackOfNone() {
        Due.promise("a SHEET of no number: all is so");
        FerriedInWords x = Due.with(Due.PLAIN, 3, 77, 1);
        for (int sort = 0; sort < 3; sort++) {
            x.sheet(0, sort, 0);
            tell(x, 0, 0, -1, 63, 1023, 100, 0, 1024, 0, 1, 1);
        }
    }

    private static void toldBackFirstOtherwise() {
        Due.promise("TOLD BACK: the first that is otherwise; NONE");
        FerriedInWords x = Due.with(Due.TELLER, 0, Due.ALL, 1);
        x.film(0, 0);
        Due.due("none", x.tells(0, 0, 0), -1);
        for (int i = 9; i >= 0; i--) {
            x.cell(0, i, 0);
            Due.due("item " + i, x.tells(0, 0, 0), i);
        }
        x.film(0, 0);
        x.cell(0, 9, 513);
        Due.due("more is told", x.tells(0, 0, 0), 9);
    }

    private static void toldBackKindsAndNumbers() {
        Due.promise("TOLD BACK: KINDS (bits 0 .. 5)");
        FerriedInWords x = Due.with(Due.TELLER, 4, 0, 0);
        Due.lists(x, 0, Due.INTS, 16);
        Due.due("a FATHER alone", x.tells(0, 0, 1), 2);
        Due.lists(x, 0, Due.INTS, 0);
        Due.due("all that make nothing up", x.tells(0, 0, 1), Due.bits(0, 2, 4, 5));
        x.sheet(0, Due.INTS, 0);
        Due.due("all", x.tells(0, 0, 1), 63);
        Due.lists(x, 0, Due.INTS, 8);
        Due.due("none", x.tells(0, 0, 1), 0);
        Due.promise("TOLD BACK: NUMBERS (bits 0 .. 9)");
        FerriedInWords y = Due.with(Due.FATHER, 4, 0, 0);
        for (int number = 0; number <= 9; number++) {
            Due.lists(y, 0, Due.INTS, 1 << number);
            Due.due("by number " + number, y.tells(0, 0, 2), 1 << number);
        }
        Due.lists(y, 0, Due.INTS, 0);
        Due.due("by none", y.tells(0, 0, 2), 0);
        Due.lists(x, 0, Due.INTS, 0);
        Due.due("by all", x.tells(0, 0, 2), 1023);
    }

    private static void toldBackMemories() {
        Due.promise("TOLD BACK: MEMORIES (of 0 .. 99: how many, the least)");
        FerriedInWords x = Due.with(Due.TELLER, 0, Due.ALL, 50);
        Due.lists(x, 0, Due.INTS, 0);
        Due.due("memory 0 alone", x.tells(0, 0, 3), 1);
        Due.due("the least", x.tells(0, 0, 4), 0);
        Due.lists(x, 0, Due.INTS, 1);
        Due.due("all but 0", x.tells(0, 0, 3), 99);
        Due.due("the least", x.tells(0, 0, 4), 1);
        Due.lists(x, 0, Due.INTS, 2);
        Due.due("none", x.tells(0, 0, 3), 0);
        Due.due("the least", x.tells(0, 0, 4), -1);
        Due.lists(x, 0, Due.INTS);
        Due.due("all", x.tells(0, 0, 3), 100);
        Due.due("the least", x.tells(0, 0, 4), 0);
        Due.rules(x, "memory-98", "0", "0");
        Due.lists(x, 0, Due.INTS, 1);
        Due.due("memory 99 alone", x.tells(0, 0, 3), 1);
        Due.due("the least", x.tells(0, 0, 4), 99);
    }

    private static void toldBackWords() {
        Due.promise("TOLD BACK: WORDS: of how many sets (of 0 .. 1023), the least");
        FerriedInWords x = Due.with(Due.TELLER, 0, 77, 1);
        Due.lists(x, 0, Due.INTS);
        Due.due("all", x.tells(0, 0, 5), 1024);
        Due.due("the least", x.tells(0, 0, 6), 0);
        Due.lists(x, 0, Due.INTS, 0);
        Due.due("half of them", x.tells(0, 0, 5), 512);
        Due.due("the least", x.tells(0, 0, 6), 0);
        Due.lists(x, 0, Due.INTS, 1, 2, 4, 8, 16, 32, 64, 128, 256, 512);
        Due.due("1023 alone", x.tells(0, 0, 5), 1);
        Due.due("the least", x.tells(0, 0, 6), 1023);
        x.sheet(0, Due.INTS, 10);
        Due.due("0 alone", x.tells(0, 0, 5), 1);
        Due.due("the least", x.tells(0, 0, 6), 0);
        Due.lists(x, 0, Due.INTS, 2);
        Due.due("none", x.tells(0, 0, 5), 0);
        Due.due("the least", x.tells(0, 0, 6), -1);
    }

    private static void toldBackTexts() {
        Due.promise("TOLD BACK: TEXTS (bits), were they THE RULE");
        FerriedInWords x = Due.with(Due.TELLER, 0, Due.ALL, 0);
        Due.lists(x, 0, Due.INTS, 1);
        Due.due("none of one", x.tells(0, 0, 7), 0);
        for (int i = 1; i <= 5; i++) {
            Due.reads(x, KEEPS_ONE);
            Due.due("text 1 .. " + i, x.tells(0, 0, 7), (1 << i + 1) - 2);
        }
        x.set(3, 0, 1);
        Due.due("all six", x.tells(0, 0, 7), 63);
        x.force(5);
        Due.due("all six, by another rule", x.tells(0, 0, 7), 63);
        Due.lists(x, 0, Due.INTS, 2);
        Due.due("none of six", x.tells(0, 0, 7), 0);
    }

    private static void toldBackPeople() {
        Due.promise("TOLD BACK: PEOPLE (bits) of whom it is so");
        FerriedInWords x = ofFive(Due.TELLER, 0, Due.ALL, 1);
        Due.lists(x, 0, Due.INTS, 1);
        for (int one = 0; one < 5; one++) Due.due("all five", x.tells(0, one, 8), 31);
        for (int i = 0; i < 4; i++) x.set(2, i, 0);
        for (int one = 0; one < 5; one++) Due.due("the last", x.tells(0, one, 8), 16);
        x.set(2, 4, 0);
        Due.due("none", x.tells(0, 0, 8), 0);
        x.set(2, 0, 1);
        Due.due("the first", x.tells(0, 4, 8), 1);
    }

    private static void drawnTimes() {
        Due.promise("DRAWN by a SEED: n times (0 .. 40)");
        FerriedInWords x = Due.with(Due.TELLER, 0, 0, 0);
        Due.due("0 times", x.drawn(1, 0), 0);
        Due.due("once: 831", x.drawn(1, 1), 8);
        Due.due("41 times", x.drawn(1, 41), -2);
        Due.due("-1 times", x.drawn(1, -1), -2);
        int z = 1;
        int together = 0;
        for (int n = 1; n <= 40; n++) {
            z = z * 1103515245 + 12345;
            together += Integer.bitCount(z >>> 9 & 1023);
            Due.due(n + " times", x.drawn(1, n), together);
        }
    }

    private static void drawnWraps() {
        Due.promise("(z >>> 9) % 1024, z being z * 1103515245 + 12345 (an int; SEED at first)");
        FerriedInWords x = Due.with(Due.TELLER, 0, 0, 0);
        Due.due("seed 0: 24", x.drawn(0, 1), 2);
        Due.due("seed 2, z below 0: 614", x.drawn(2, 1), 5);
        Due.due("seed -1: 240", x.drawn(-1, 1), 4);
        Due.due("the greatest seed: 240", x.drawn(Due.MAX, 1), 4);
        Due.due("the least seed: 24", x.drawn(Due.MIN, 1), 2);
        FerriedInWords y = Due.with(Due.FATHER, 4, 0, 0);
        Due.due("seed 0: 24, of which 16 is told", y.drawn(0, 1), 1);
        Due.due("seed 1: 831, of which 16 is told", y.drawn(1, 1), 7);
    }

    private static void chance(FerriedInWords x, int seed, int m, int k, int above, int below) {
        Due.due("chance of " + m + " from " + seed + ", " + k + " or less, above", x.chance(seed, m, k, 0), above);
        Due.due("chance of " + m + " from " + seed + ", " + k + " or less, below", x.chance(seed, m, k, 1), below);
    }

    private static void inSeeds() {
        Due.promise("IN m seeds (1 .. 40)");
        FerriedInWords x = Due.with(Due.TELLER, 0, 0, 0);
        chance(x, 1, 1, 8, 1, 1);
        chance(x, 1, 1, 7, 0, 1);
        chance(x, 1, 40, 10, 1, 1);
        int many = 0;
        for (int i = 0; i < 40; i++) if (Integer.bitCount((i * 1103515245 + 12345) >>> 9 & 1023) <= 4) many++;
        Due.due("of 40, by lowest terms", x.chance(0, 40, 4, 0) * 40, x.chance(0, 40, 4, 1) * many);
        for (int m : new int[] {0, 41, -1, Due.MAX, Due.MIN}) {
            Due.due("of " + m, x.chance(1, m, 0, 0), FerriedInWords.NO);
            Due.due("of " + m, x.chance(1, m, 0, 1), FerriedInWords.NO);
        }
    }

    private static void inSeedsWraps() {
        Due.promise("IN m seeds: SEED and each 1 more (an int)");
        FerriedInWords x = Due.with(Due.TELLER, 0, 0, 0);
        chance(x, Due.MAX, 1, 3, 0, 1);
        chance(x, Due.MAX, 1, 4, 1, 1);
        chance(x, Due.MAX, 2, 1, 0, 1);
        chance(x, Due.MAX, 2, 2, 1, 2);
        chance(x, Due.MAX, 2, 4, 1, 1);
        chance(x, -1, 2, 2, 1, 2);
        chance(x, Due.MIN, 1, 2, 1, 1);
        chance(x, 0, 3, 5, 2, 3);
    }

    private static void inSeedsOrLess() {
        Due.promise("IN m seeds: those by which that is k (0 .. 10) or less");
        FerriedInWords x = Due.with(Due.TELLER, 0, 0, 0);
        for (int k = 0; k <= 10; k++) chance(x, 1, 1, k, k >= 8 ? 1 : 0, 1);
        FerriedInWords y = Due.with(Due.TELLER, 0, Due.ALL, 99);
        chance(y, 1, 40, 0, 1, 1);
        for (int k : new int[] {-1, 11, Due.MAX, Due.MIN}) Due.due("k " + k, y.chance(1, 1, k, 0), FerriedInWords.NO);
        for (int part : new int[] {-1, 2, Due.MAX, Due.MIN}) Due.due("part " + part, y.chance(1, 1, 0, part), FerriedInWords.NO);
    }

    private static void mean() {
        Due.promise("MEAN: for how many PARTS all PEOPLE have WORDS, together, by how many there are; in lowest terms");
        FerriedInWords x = new FerriedInWords();
        int[] words = {0, 3, 1023, 15, 31};
        int[] above = {0, 1, 4, 4, 21};
        int[] below = {1, 1, 1, 1, 5};
        for (int part = 0; part < 2; part++) Due.due("nobody is there", x.mean(part), FerriedInWords.NO);
        for (int i = 0; i < 5; i++) {
            x.person(Due.LOVER, 0, words[i], 0);
            Due.due("of " + (i + 1) + ", above", x.mean(0), above[i]);
            Due.due("of " + (i + 1) + ", below", x.mean(1), below[i]);
        }
        for (int i = 0; i < 5; i++) x.set(2, i, 1023);
        Due.due("all words, above", x.mean(0), 10);
        Due.due("all words, below", x.mean(1), 1);
        for (int i = 0; i < 5; i++) x.set(2, i, 0);
        Due.due("no words, above", x.mean(0), 0);
        Due.due("no words, below", x.mean(1), 1);
        for (int part : new int[] {-1, 2, Due.MAX, Due.MIN}) Due.due("part " + part, x.mean(part), FerriedInWords.NO);
    }

    private static void imageOfTheLeastAndTheMost() {
        Due.promise("AN IMAGE keeps DAY, THE JETTY, COME OVER, NUMBERS, WORDS, MEMORIES, SAID, THE RULE");
        FerriedInWords x = new FerriedInWords();
        String least = Due.all(x);
        Due.due("of nobody", x.image(), 0);
        for (int kind = 0; kind < 5; kind++) x.person(kind, 9, 1023, 99);
        for (int i = 0; i < 9; i++) x.brings(1023);
        x.day();
        x.brings(1);
        x.set(0, 0, 999);
        Due.due("back to nobody", x.back(), 0);
        Due.same("all", Due.all(x), least);
        FerriedInWords y = new FerriedInWords();
        for (int i = 1; i < 6; i++) Due.reads(y, KEEPS_ONE);
        for (int kind = 0; kind < 5; kind++) {
            y.person(kind, 9, 1023, 99);
            y.set(4, kind, 99);
        }
        for (int i = 0; i < 8; i++) y.brings(1023 - i);
        y.force(5);
        y.set(0, 0, 999);
        String most = Due.all(y);
        Due.due("of five", y.image(), 5);
        for (int what = 1; what < 5; what++) for (int one = 0; one < 5; one++) y.set(what, one, 0);
        y.set(0, 0, 0);
        y.force(0);
        for (int i = 0; i < 9; i++) y.day();
        Due.due("back to five", y.back(), 5);
        Due.same("all", Due.all(y), most);
    }

    private static void peopleThatCameSinceGo() {
        Due.promise("(PEOPLE that came since go)");
        FerriedInWords x = Due.with(Due.FATHER, 1, 0, 0);
        x.image();
        for (int i = 2; i <= 5; i++) x.person(Due.LIAR, i, 0, 0);
        Due.due("five are there", x.count(0), 5);
        Due.due("back", x.back(), 1);
        Due.due("one is there", x.count(0), 1);
        Due.due("the others are none", x.told(1, 5), -1000);
        Due.due("not by a row", x.row(0, 3, 0), 1);
        for (int i = 1; i <= 4; i++) Due.due("four come", x.person(Due.PLAIN, i, 0, 0), i);
        Due.due("a fifth more", x.person(Due.PLAIN, 9, 0, 0), -4);
        Due.due("of their kind", x.told(4, 5), Due.PLAIN);
        Due.due("an image of them", x.image(), 5);
        Due.due("back to them", x.back(), 5);
    }

    private static void sheetsAreMissingAtFirst() {
        Due.promise("SHEETS 0 .. 3 are rows of numbers, or missing (as all are at first)");
        FerriedInWords x = Due.with(Due.TELLER, 0, 0, 0);
        for (int sheet = 0; sheet <= 3; sheet++) {
            Due.due("cell of " + sheet, x.cell(sheet, 0, 0), -11);
            Due.due("over by " + sheet, x.over(sheet, 0, 0), -11);
            Due.due("tells by " + sheet, x.tells(sheet, 0, 0), -11);
            Due.due("copy of " + sheet, x.copy(sheet, 0, sheet, 0, 0), -11);
            for (int sort = 0; sort < 3; sort++) Due.due("crew by " + sheet, x.crew(sheet, sort, 0, 0), -11);
        }
        for (int sheet : new int[] {-1, 4, Due.MAX, Due.MIN}) {
            Due.due("cell of " + sheet, x.cell(sheet, 0, 0), -2);
            Due.due("over by " + sheet, x.over(sheet, 0, 0), -2);
            Due.due("tells by " + sheet, x.tells(sheet, 0, 0), -2);
            Due.due("film on " + sheet, x.film(sheet, 0), -2);
            Due.due("copy of " + sheet, x.copy(sheet, 0, 0, 0, 0), -2);
            Due.due("copy to " + sheet, x.copy(0, 0, sheet, 0, 0), -2);
            Due.due("crew by " + sheet, x.crew(sheet, 0, 0, 0), -2);
            Due.due("sheet " + sheet, x.sheet(sheet, 0, 0), -2);
        }
    }

    private static void sheetsOfSorts() {
        Due.promise("SHEETS: of sort 0 bytes, 1 shorts, 2 ints");
        FerriedInWords x = new FerriedInWords();
        for (int sort = 0; sort < 3; sort++) {
            Due.due("sort " + sort, x.sheet(sort, sort, 40), 1);
            for (int as = 0; as < 3; as++) Due.due("as sort " + as, x.crew(sort, as, 0, 0), as == sort ? 0 : -13);
        }
        for (int sort : new int[] {-2, 3, Due.MAX, Due.MIN}) Due.due("sort " + sort, x.sheet(0, sort, 0), -2);
    }
}
