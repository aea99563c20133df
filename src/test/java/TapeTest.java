/** The Terms on texts: each sentence that names a boundary case has a test of its own, which bears its words. */
public final class TapeTest {
    private static final String END = ";tires 0;learns 0;";
    /** 22 bytes, so that six texts and a full tape are far from 512 calls. */
    private static final String SHORT = "keeps1;tires2;learns3;";

    public static void main(String[] args) {
        tape();
        tapeOf160();
        emptyTape();
        tokensAsLongAsCanBe();
        words();
        numbers();
        signs();
        blanks();
        sumsOfOneAndMany();
        wraps();
        falseAndTrue();
        laidWithin99();
        learnsLaidWithin99();
        faultOfTheFirstToken();
        faultOfTheEnd();
        faultOfABeginning();
        faultOfAWord();
        faultOfANumber();
        fiveBrackets();
        fiveNots();
        fiveMinuses();
        fiveOfAll();
        openTillItEnds();
        openAnewInEachPart();
        sixTexts();
        textIsFullAheadOfAll();
        textZero();
        namesFromLeastToMost();
        dayInThought();
        Due.end();
    }

    private static void fine(String text) {
        Due.due("text of '" + text + "'", Due.reads(new FerriedInWords(), text), 1);
    }

    /** The fault is where the bar stands. */
    private static void fault(String barred) {
        int place = barred.indexOf('|');
        String text = barred.substring(0, place) + barred.substring(place + 1);
        Due.due("text of '" + text + "'", Due.reads(new FerriedInWords(), text), -100 - place);
    }

    /** What a sum comes to as what tires a TELLER, who has words for the parts 1 and 4, at memory 5 and number 6. */
    private static void sum(String sum, int due) {
        FerriedInWords x = Due.with(Due.TELLER, 6, Due.bits(1, 4), 5);
        Due.rules(x, "0", sum, "0");
        Due.due(sum, x.asks(0, 7, 2), due);
    }

    private static void tape() {
        Due.promise("THE TAPE (160 bytes at most)");
        FerriedInWords x = new FerriedInWords();
        Due.due("at first", x.count(4), 0);
        for (int i = 1; i <= 160; i++) Due.due("byte " + i, x.feed(i), i);
        Due.due("byte 161", x.feed(32), -4);
        Due.due("byte 161 again", x.feed(0), -4);
        Due.due("160 are there", x.count(4), 160);
        Due.due("read", x.text(), -100);
        Due.due("it is empty", x.count(4), 0);
        for (int i = 1; i <= 160; i++) Due.due("byte " + i + " anew", x.feed(255), i);
        Due.due("byte 161 anew", x.feed(255), -4);
    }

    private static void tapeOf160() {
        Due.promise("THE TAPE (160 bytes at most), full");
        String many = "keeps 0" + "+1".repeat(67) + END;
        fine(many + " ");
        fault(many + "|x");
        FerriedInWords x = Due.with(Due.TELLER, 0, Due.ALL, 0);
        String summed = "keeps 0;tires 00" + "+1".repeat(64) + ";learns 0;      ";
        Due.due("its size", summed.length(), 160);
        Due.due("text", Due.reads(x, summed), 1);
        x.force(1);
        Due.due("all of it counts", x.asks(0, 0, 2), 64);
        String deep = "keeps " + "(1+".repeat(4) + "1" + ")".repeat(4) + "+0".repeat(59);
        fine(deep + END);
        String early = "keeps 1" + "+1".repeat(76) + "+";
        Due.due("its size", early.length(), 160);
        fault(early + "|");
    }

    private static void emptyTape() {
        Due.promise("an empty tape: the text's size, if it ends too early");
        FerriedInWords x = new FerriedInWords();
        Due.due("read", x.text(), -100);
        Due.due("read again", x.text(), -100);
        Due.due("it is no text", x.count(3), 1);
        fault("|");
        fault(" |");
        fault(" ".repeat(160) + "|");
        fault("\n".repeat(160) + "|");
    }

    private static void tokensAsLongAsCanBe() {
        Due.promise("TOKENS, each as long as can be");
        fine("keeps1;tires2;learns3;");
        fine("keeps words and words" + END);
        fault("keeps |wordsandwords" + END);
        fault("|keepswords" + END);
        fault("keeps not not|");
        fault("keeps |notnot 1" + END);
        fine("keeps 12and 34" + END);
        fine("keeps 1or 2" + END);
        fault("keeps 1or2|x" + END);
        fault("keeps 1 |orx 2" + END);
    }

    private static void words() {
        Due.promise("WORDS (a .. z)");
        fault("keeps |a" + END);
        fault("keeps |z" + END);
        fault("keeps day|`" + END);
        fault("keeps day|{" + END);
        fault("keeps day|A" + END);
        fault("keeps |Day" + END);
        fault("keeps |DAY" + END);
        fault("keeps |da y" + END);
        fine("keeps day" + END);
        fault("keeps |dayz" + END);
        fault("keeps |aday" + END);
    }

    private static void numbers() {
        Due.promise("NUMBERS (as many digits as stand there, 4 at most)");
        fine("keeps 0" + END);
        fine("keeps 9" + END);
        fine("keeps 9999" + END);
        fine("keeps 0000" + END);
        fault("keeps |10000" + END);
        fault("keeps |00000" + END);
        fault("keeps 1|:" + END);
        fault("keeps 1|/" + END);
        fault("keeps 9999 |9" + END);
        sum("0099", 99);
        sum("9999-9901", 98);
        sum("0-0000", 0);
    }

    private static void signs() {
        Due.promise("SIGNS ( ) ; + - * < =");
        String begin = "keeps 1";
        for (int b = 0; b < 256; b++) {
            char c = (char) b;
            String text = begin + c + "2" + END;
            int due = -107;
            if ("+-*<=0123456789".indexOf(c) >= 0) due = 1;
            if (" \n;".indexOf(c) >= 0) due = -108;
            Due.due("text of '" + begin + "', byte " + b + ", 2 ..", Due.reads(new FerriedInWords(), text), due);
        }
        fine("keeps (1)" + END);
    }

    private static void blanks() {
        Due.promise("blanks (32, 10) may stand between");
        for (int b = 0; b < 256; b++) {
            char c = (char) b;
            int due = -105;
            if (" \n0123456789(-".indexOf(c) >= 0) due = 1;
            if (c >= 'a' && c <= 'z') due = -100;
            if (c == '(') due = -107;
            Due.due("text of keeps, byte " + b + ", 1 ..", Due.reads(new FerriedInWords(), "keeps" + c + "1" + END), due);
        }
        fine(" \n keeps \n ( \n 1 \n + \n day \n ) \n ; \n tires \n 0 \n ; \n learns \n 0 \n ; \n ");
        fine("keeps(1+day);tires(0);learns(0);");
        fault("|ke eps 1" + END);
        sum("1 + 1", 2);
        fault("keeps 1 |1" + END);
    }

    private static void sumsOfOneAndMany() {
        Due.promise("E: AND { or AND }; AND: NOT { and NOT }; SUM: TERM { + or - TERM }; TERM: ONE { * ONE }");
        sum("0 or 0 or 0 or 0 or 0 or 0 or 1", 1);
        sum("1 and 1 and 1 and 1 and 1 and 0", 0);
        sum("1+1-1+1-1+1-1+1+1+1+1", 5);
        sum("9-1-1-1-1", 5);
        sum("1*2*3*4*1*1*1*2", 48);
        Due.promise("NOT: not NOT, or SUM, perhaps < or = and a SUM");
        sum("1<2", 1);
        sum("2=2", 1);
        sum("2<2", 0);
        fault("keeps 1<2|<3" + END);
        fault("keeps 1=1|=1" + END);
        fault("keeps 1<2|=1" + END);
        fault("keeps 1<|not 2" + END);
        sum("(1<2)<3", 1);
        sum("not 1<1", 1);
    }

    private static void wraps() {
        Due.promise("An E is an int (32 bits, wrapping)");
        String most = "2048*1024*1024-1";
        sum("0<" + most, 1);
        sum(most + "+1<0", 1);
        sum("2048*1024*1024<0", 1);
        sum("2048*1024*1024*2=0", 1);
        sum("-(2048*1024*1024)<0", 1);
        sum("-(2048*1024*1024)=2048*1024*1024", 1);
        sum("0-2048*1024*1024=2048*1024*1024", 1);
        sum("-(" + most + ")-1-1=" + most, 1);
        sum("2048*1024*1024<" + most, 1);
        sum("4096*1024*1024+7", 7);
        sum("4096*1024*1024*9999+8", 8);
        sum("9999*9999*9999+0<0", (int) (9999L * 9999 * 9999) < 0 ? 1 : 0);
        sum(most, 99);
        sum("2048*1024*1024", 0);
    }

    private static void falseAndTrue() {
        Due.promise("of or, and, not, <, = 1 or 0 (what is not 0 is true)");
        sum("7 or 0", 1);
        sum("0 or 0-7", 1);
        sum("0 or 0", 0);
        sum("7 and 0-7", 1);
        sum("7 and 0", 0);
        sum("not 7", 0);
        sum("not 0", 1);
        sum("not not 7", 1);
        sum("not -1", 0);
        sum("(3<4)+(4=4)", 2);
        sum("2048*1024*1024 and 1", 1);
        sum("0-1<0", 1);
        sum("0<0", 0);
        sum("0=0", 1);
    }

    private static void laidWithin99() {
        Due.promise("keeps, tires, learns (0 .. 99, else the bound)");
        sum("0", 0);
        sum("99", 99);
        sum("100", 99);
        sum("9999", 99);
        sum("98+1", 99);
        sum("99+1-1", 99);
        sum("100-1+0*9", 99);
        sum("-1", 0);
        sum("0-9999", 0);
        sum("9999*-9999", 0);
        String most = "2048*1024*1024-1";
        int[] due = {10, 10, 10, 10, 10, 10};
        for (int kind = 0; kind < 6; kind++) {
            FerriedInWords x = Due.with(kind, 0, Due.ALL, 0);
            x.set(0, 0, 1);
            Due.rules(x, most, most, "0");
            Due.due("keeps by the most, kind " + kind, x.asks(0, 0, 1), due[kind]);
        }
        int[] none = {0, 1, 0, 1, 0, 0};
        for (int kind = 0; kind < 6; kind++) {
            FerriedInWords x = Due.with(kind, 0, Due.ALL, 9);
            x.set(0, 0, 1);
            Due.rules(x, "-1", "-1", "0");
            Due.due("keeps by less than 0, kind " + kind, x.asks(0, 0, 1), none[kind]);
            Due.due("tires by less than 0, kind " + kind, x.asks(0, 0, 2), kind == Due.ENGINEER ? 1 : 0);
        }
        FerriedInWords lover = Due.with(Due.LOVER, 0, Due.ALL, 9);
        Due.rules(lover, "0", most, "0");
        Due.due("a lover tires by the most", lover.asks(0, 0, 2), 50);
    }

    private static void learnsLaidWithin99() {
        Due.promise("learns (0 .. 99, else the bound), yes, if it isn't 0");
        String[] sums = {"-1", "0", "1", "99", "100", "9999", "0-9999", "2048*1024*1024", "2048*1024*1024-1"};
        int[] due = {0, 0, 1, 1, 1, 1, 0, 0, 1};
        for (int i = 0; i < sums.length; i++) {
            FerriedInWords x = Due.with(Due.TELLER, 0, 0, 0);
            Due.rules(x, "0", "0", sums[i]);
            Due.due("learns by " + sums[i], x.asks(0, 3, 3), due[i]);
        }
    }

    private static void faultOfTheFirstToken() {
        Due.promise("FAULT: the place of the first byte of the first TOKEN that can't stand there");
        fault("|;");
        fault("|tires 0");
        fault("keeps |;");
        fault("keeps 1 |tires 0");
        fault("keeps 1;|learns 0");
        fault("keeps 1;tires 0;|keeps 0");
        fault("keeps 1;tires 0;learns 0;|;");
        fault("keeps 1;tires 0;learns 0;\n\n|keeps 1" + END);
        fault("keeps 1;tires 0;learns 0 |0;");
        fault("keeps 1 + |;tires ?;learns 99999;");
        fault("keeps 1 |words ? 99999 word");
        fault("keeps 1|);");
        fault("keeps (|)" + END);
        fault("keeps (1|;");
        fault("keeps 1 |(1)" + END);
        fault("keeps |*1" + END);
        fault("keeps |+1" + END);
        fault("keeps |<1" + END);
        fault("keeps |=1" + END);
        fault("keeps |or 1" + END);
        fault("keeps |and 1" + END);
        fault("keeps 1 |not 1" + END);
        fault("keeps -|not 1" + END);
        fault("keeps 1*|not 1" + END);
    }

    private static void faultOfTheEnd() {
        Due.promise("(the text's size, if it ends too early)");
        String whole = "keeps ( - 12 ) and not day < words * 3;tires 0;learns said;";
        fine(whole);
        for (int size = 0; size < whole.length(); size++) {
            String begun = whole.substring(0, size);
            int word = size;
            while (word > 0 && Character.isLetter(begun.charAt(word - 1))) word--;
            String last = begun.substring(word);
            boolean cut = !last.isEmpty() && !" keeps and not day words tires learns said ".contains(" " + last + " ");
            Due.due("text of '" + begun + "'", Due.reads(new FerriedInWords(), begun), -100 - (cut ? word : size));
        }
        fault("keeps 1;tires 0;learns 0|");
        fault("keeps 1;tires 0;learns 0 \n |");
    }

    private static void faultOfABeginning() {
        Due.promise("FAULT: also of a byte that begins none");
        for (int b : new int[] {0, 9, 11, 13, 31, 33, 39, 44, 46, 47, 58, 62, 64, 65, 90, 91, 96, 123, 127, 128, 255}) {
            char c = (char) b;
            fault("|" + c);
            fault("|" + c + "keeps 1" + END);
            fault("keeps |" + c + "1" + END);
            fault("keeps 1|" + c + END);
            fault("keeps 1" + END + "|" + c);
        }
        Due.promise("a byte that begins none, behind a token that can't stand there");
        fault("keeps |keeps ?");
        fault("keeps 1 |1 ?");
        Due.promise("a byte that begins none, ahead of a token that can't stand there");
        fault("keeps |? keeps");
    }

    private static void faultOfAWord() {
        Due.promise("FAULT: also of a WORD that is neither KEY nor NAME");
        for (String word : new String[] {"keep", "keepss", "tire", "learn", "o", "orr", "an", "ands", "no", "nots", "word", "memor",
            "memoryy", "numbe", "days", "part", "sai", "saidd", "a", "z", "eepsk", "x"}) {
            fault("|" + word + " 1" + END);
            fault("keeps |" + word + END);
            fault("keeps 1 |" + word + " 1" + END);
            fault("keeps 1;|" + word + " 1;");
        }
        for (String name : new String[] {"words", "memory", "number", "day", "parts", "said"}) {
            fine("keeps " + name + END);
            fault("|" + name + " 1" + END);
            fault("keeps 1 |" + name + END);
        }
    }

    private static void faultOfANumber() {
        Due.promise("FAULT: also of a NUMBER that is too long");
        fine("keeps 9999" + END);
        fault("keeps |99999" + END);
        fault("keeps |00001" + END);
        fault("keeps 1+|12345678901234567890" + END);
        fault("keeps (((((|12345)))))" + END);
        fault("keeps 1 |12345" + END);
        fault("keeps |" + "1".repeat(154));
    }

    private static void fiveBrackets() {
        Due.promise("FAULT: also of a ( while 5 of these are open");
        fine("keeps (((((1)))))" + END);
        fault("keeps (((((|(1))))))" + END);
        fault("keeps (((((|(");
        fault("keeps (((((1+|(1))))))" + END);
        fault("keeps (((((1|(1))))))" + END);
        fine("keeps ((((1)+(1))))" + END);
    }

    private static void fiveNots() {
        Due.promise("FAULT: also of a not while 5 of these are open");
        fine("keeps not not not not not 1" + END);
        fault("keeps not not not not not |not 1" + END);
        fault("keeps not not not not not |not");
        fault("keeps (((((|not 1)))))" + END);
        fine("keeps ((((not 1))))" + END);
    }

    private static void fiveMinuses() {
        Due.promise("FAULT: also of a - ahead of a ONE while 5 of these are open");
        fine("keeps -----1" + END);
        fault("keeps -----|-1" + END);
        fault("keeps (((((|-1)))))" + END);
        fine("keeps ((((-1))))" + END);
        fine("keeps (((((1-1)))))" + END);
        fault("keeps (((((1-|-1)))))" + END);
        fault("keeps (((((1*|-1)))))" + END);
        fault("keeps (((((|- ;");
    }

    private static void fiveOfAll() {
        Due.promise("FAULT: a (, a not, a - ahead of a ONE while 5 of these are open");
        fine("keeps not (-(not 1))" + END);
        fine("keeps not (not (-1))" + END);
        fine("keeps not (-(-1))" + END);
        fault("keeps not (-(-|-1))" + END);
        fault("keeps not (-(-|(1)))" + END);
        fine("keeps not (-((1)))" + END);
        fault("keeps not (-((|not 1)))" + END);
        fault("keeps not (-((|-1)))" + END);
        fault("keeps not not not not -|-1" + END);
        fault("keeps not not not not -|(1)" + END);
        fine("keeps not not not not (1)" + END);
        fine("keeps -(-(-1))" + END);
    }

    private static void openTillItEnds() {
        Due.promise("(a ( till its ), not and - till what they belong to ends)");
        fine("keeps (((((1)))))+(((((1)))))" + END);
        fine("keeps ((((1))+(((1)))))" + END);
        fine("keeps -----1+-----1" + END);
        fine("keeps -----1*-----1" + END);
        fine("keeps -----1<-----1" + END);
        fine("keeps ----(1)*-----1" + END);
        fine("keeps not not not not not 1 and not not not not not 1 or not not not not not 1" + END);
        fault("keeps not not not not not 1<|-1" + END);
        fault("keeps not not not not not 1<|(1)" + END);
        fault("keeps not not not not not 1+1*|(1)" + END);
        fine("keeps not not not not 1<(1)" + END);
        fine("keeps not not not not not 1<1 and (1)" + END);
        fine("keeps (not 1 and -1) or -----1" + END);
    }

    private static void openAnewInEachPart() {
        Due.promise("(a ( till its ), ..), in each part");
        fine("keeps (((((1)))));tires -----1;learns not not not not not 1;");
        fault("keeps (((((1)))));tires -----|-1;learns 1;");
        fault("keeps (((((1)))));tires -----1;learns not not not not not |not 1;");
    }

    private static void sixTexts() {
        Due.promise("There are 6 TEXTS at most, TEXT 0 with them");
        FerriedInWords x = new FerriedInWords();
        Due.due("at first", x.count(3), 1);
        Due.due("text 0 is one", x.force(0), 0);
        for (int i = 1; i <= 5; i++) {
            Due.due("text " + i + ", ahead of it", x.force(i), -2);
            Due.due("text " + i, Due.reads(x, SHORT), i);
            Due.due("how many", x.count(3), i + 1);
        }
        Due.feeds(x, SHORT);
        Due.due("text 6", x.text(), -4);
        Due.due("how many", x.count(3), 6);
        Due.due("text 5 is one", x.force(5), 0);
        Due.due("text 6 is none", x.force(6), -2);
    }

    private static void textIsFullAheadOfAll() {
        Due.promise("FULL (ahead of all): no TEXT more has room (THE TAPE stays)");
        FerriedInWords x = new FerriedInWords();
        for (int i = 1; i <= 5; i++) Due.reads(x, SHORT);
        Due.due("of an empty tape", x.text(), -4);
        x.feed('?');
        Due.due("of a fault", x.text(), -4);
        Due.due("the tape stays", x.count(4), 1);
        for (int i = 2; i <= 160; i++) Due.due("byte " + i, x.feed('?'), i);
        Due.due("of a full tape", x.text(), -4);
        Due.due("the tape stays", x.count(4), 160);
        Due.due("it is full", x.feed('?'), -4);
    }

    private static void textZero() {
        Due.promise("TEXT 0, at first THE RULE, is: keeps memory ; tires 0 ; learns 0 ;");
        FerriedInWords x = Due.with(Due.TELLER, 3, 7, 0);
        Due.due("the rule", x.count(5), 0);
        for (int memory = 0; memory <= 99; memory++) {
            x.set(3, 0, memory);
            Due.due("keeps by " + memory, x.asks(0, 7, 1), Math.min(memory, 10));
        }
        x.set(4, 0, 9);
        x.set(0, 0, 9);
        Due.due("tires", x.asks(0, 1023, 2), 0);
        Due.due("learns", x.asks(0, 1023, 3), 0);
        Due.reads(x, SHORT);
        Due.due("still the rule", x.count(5), 0);
        Due.due("keeps", x.asks(0, 7, 1), 10);
    }

    /** Of a TELLER what tires tells by a name. */
    private static int named(String name, FerriedInWords x, int thing) {
        Due.rules(x, "0", name, "0");
        return x.asks(0, thing, 2);
    }

    private static void namesFromLeastToMost() {
        Due.promise("words: for how many PARTS one has WORDS; memory; number; day; parts; said");
        Due.due("words, none", named("words", Due.with(0, 9, 0, 99), 1023), 0);
        Due.due("words, all", named("words", Due.with(0, 0, 1023, 0), 0), 10);
        Due.due("memory 0", named("memory", Due.with(0, 9, 1023, 0), 1023), 0);
        Due.due("memory 99", named("memory", Due.with(0, 0, 0, 99), 0), 99);
        Due.due("number 0", named("number", Due.with(0, 0, 1023, 99), 1023), 0);
        Due.due("number 9", named("number", Due.with(0, 9, 0, 0), 0), 9);
        Due.due("parts, none", named("parts", Due.with(0, 9, 1023, 99), 0), 0);
        Due.due("parts, all", named("parts", Due.with(0, 0, 0, 0), 1023), 10);
        FerriedInWords x = Due.with(0, 9, 1023, 99);
        Due.due("said 0", named("said", x, 1023), 0);
        x.set(4, 0, 99);
        Due.due("said 99", x.asks(0, 0, 2), 99);
        Due.due("day 0", named("day", x, 1023), 0);
        x.set(0, 0, 99);
        Due.due("day 99", x.asks(0, 0, 2), 99);
        x.set(0, 0, 999);
        Due.due("day 999", named("day-901", x, 0), 98);
    }

    private static void dayInThought() {
        Due.promise("day: DAY (there DAY may pass 999)");
        FerriedInWords x = Due.with(Due.TELLER, 0, 1023, 99);
        Due.rules(x, "10", "day-998", "0");
        x.set(0, 0, 999);
        for (int i = 0; i < 8; i++) x.brings(1);
        Due.due("tired by 1", x.run(1, 20), 98);
        Due.due("and by 2", x.run(2, 20), 96);
        Due.due("up to 8", x.run(8, 20), 63);
        Due.due("it was in thought", x.told(0, 3), 99);
    }
}
