/** Promises 7 to 9: texts. */
public final class TextTest {
    private static final String ONE = "keeps 1;tires 2;learns 3;";

    public static void main(String[] args) {
        feed();
        text();
        sixTexts();
        sums();
        names();
        faults();
        faultsOfTokens();
        faultsBehindOthers();
        fiveOpen();
        force();
        Due.end();
    }

    private static void feed() {
        Due.promise("7");
        FerriedInWords x = new FerriedInWords();
        for (int wrong : new int[] {-1, 256, Due.MAX, Due.MIN}) Due.due("feed " + wrong, x.feed(wrong), -2);
        Due.due("nothing came", x.count(4), 0);
        Due.due("feed 0", x.feed(0), 1);
        Due.due("feed 255", x.feed(255), 2);
        for (int i = 3; i <= 160; i++) Due.due("feed", x.feed(' '), i);
        Due.due("byte 161", x.feed(' '), -4);
        Due.due("no byte, ahead of full", x.feed(256), -2);
        Due.due("no byte, ahead of full", x.feed(-1), -2);
        Due.due("count(4)", x.count(4), 160);
        Due.due("byte 0 begins no token", x.text(), -100);
        Due.due("there is room again", x.feed('k'), 1);
    }

    private static void text() {
        Due.promise("8");
        FerriedInWords x = new FerriedInWords();
        Due.due("text", Due.reads(x, ONE), 1);
        Due.due("the tape is empty", x.count(4), 0);
        Due.due("texts", x.count(3), 2);
        Due.due("the rule stays", x.count(5), 0);
        Due.due("fault", Due.reads(x, "keeps 1;tires ;"), -114);
        Due.due("the tape is empty", x.count(4), 0);
        Due.due("texts", x.count(3), 2);
        String wide = "keeps 1;tires 2;learns 3;";
        String blanks = " \n".repeat(80).substring(0, 160 - wide.length());
        Due.due("160 bytes", Due.reads(x, blanks + wide), 2);
        Due.due("160 bytes, blanks behind", Due.reads(x, wide + blanks), 3);
        x.person(Due.TELLER, 0, 0, 0);
        Due.rules(x, "keeps 06" + "-0".repeat(67) + ";tires 2;learns 0;");
        Due.due("what it says", x.asks(0, 0, 1), 6);
        Due.rules(x, "keeps 7;tires 2;learns 00" + "*1".repeat(67) + ";");
        Due.due("what it says", x.asks(0, 0, 1), 7);
    }

    private static void sixTexts() {
        FerriedInWords x = new FerriedInWords();
        for (int i = 1; i < 6; i++) {
            Due.due("a fault takes no room", Due.reads(x, "keeps"), -105);
            Due.due("text", Due.reads(x, ONE), i);
        }
        Due.feeds(x, ONE);
        Due.due("a seventh text", x.text(), -4);
        Due.due("the tape stays", x.count(4), ONE.length());
        Due.due("texts", x.count(3), 6);
        Due.feeds(x, "?");
        Due.due("full ahead of a fault", x.text(), -4);
        Due.due("the tape stays", x.count(4), ONE.length() + 1);
    }

    /** What a sum comes to: as keeps of a teller, 0 to 10. */
    private static void sum(String sum, int due) {
        FerriedInWords x = new FerriedInWords();
        x.person(Due.TELLER, 0, 0, 0);
        Due.rules(x, sum, "0", "0");
        Due.due("keeps " + sum, x.asks(0, 0, 1), due);
        FerriedInWords y = new FerriedInWords();
        y.person(Due.TELLER, 0, 0, 0);
        Due.rules(y, "0", sum, "0");
        Due.due("tires " + sum, y.asks(0, 0, 2), due);
        FerriedInWords z = new FerriedInWords();
        z.person(Due.TELLER, 0, 0, 0);
        Due.rules(z, "0", "0", sum);
        Due.due("learns " + sum, z.asks(0, 0, 3), due == 0 ? 0 : 1);
    }

    private static void sums() {
        Due.promise("8 sums");
        sum("7", 7);
        sum("0007", 7);
        sum("2+3*2", 8);
        sum("2*3+2", 8);
        sum("(2+2)*2", 8);
        sum("10-3-2", 5);
        sum("10-(3-2)", 9);
        sum("2*2*2", 8);
        sum("-2+5", 3);
        sum("-2*3+10", 4);
        sum("3*-2+10", 4);
        sum("- - 4", 4);
        sum("9--1", 10);
        sum("5<6", 1);
        sum("6<6", 0);
        sum("7<6", 0);
        sum("-1<0", 1);
        sum("6=6", 1);
        sum("6=5", 0);
        sum("2+3=5", 1);
        sum("(5<6)+(6<7)+2", 4);
        sum("2 and 4", 1);
        sum("2 and 0", 0);
        sum("0 and 0", 0);
        sum("1 and 1", 1);
        sum("1 and 2 and 3", 1);
        sum("(0 and 1)+1", 1);
        sum("(0 or 0)+1", 1);
        sum("(3<2)+1", 1);
        sum("(3=2)+1", 1);
        sum("0 or 7", 1);
        sum("7 or 0", 1);
        sum("0 or 0", 0);
        sum("0 or 0 or 3", 1);
        sum("1 or 0 and 0", 1);
        sum("(1 or 0) and 0", 0);
        sum("not 3", 0);
        sum("not 0", 1);
        sum("not not 5", 1);
        sum("not 1=2", 1);
        sum("(not 1)=2", 0);
        sum("not 0 and 0", 0);
        sum("not 1 or 1", 1);
        sum("0-1 and 1", 1);
        sum("9999*9999*9999<0", 1);
        sum("9999*9999*9999=-(9999*(9999*10+2755)+2714)", 1);
    }

    private static void names() {
        Due.promise("8 names");
        String[] names = {"words", "memory", "number", "day", "parts", "said"};
        int[] due = {3, 7, 5, 9, 4, 2};
        for (int i = 0; i < 6; i++) {
            FerriedInWords x = new FerriedInWords();
            x.person(Due.TELLER, 5, Due.bits(1, 4, 8), 7);
            x.set(0, 0, 9);
            x.set(4, 0, 2);
            Due.rules(x, names[i], names[i], names[i] + "<" + due[i]);
            int thing = Due.bits(0, 2, 3, 9);
            Due.due("keeps " + names[i], x.asks(0, thing, 1), due[i]);
            Due.due("tires " + names[i], x.asks(0, thing, 2), due[i]);
            Due.due("learns " + names[i], x.asks(0, thing, 3), 0);
        }
        FerriedInWords x = new FerriedInWords();
        x.person(Due.TELLER, 0, 1023, 3);
        x.person(Due.ENGINEER, 0, 1023, 4);
        Due.due("text 0 keeps memory", x.asks(0, 0, 1), 3);
        Due.due("text 0 tires 0", x.asks(0, 0, 2), 0);
        Due.due("text 0 learns 0", x.asks(0, 0, 3), 0);
        Due.rules(x, "memory+day*2", "said", "0");
        x.set(0, 0, 3);
        Due.due("one's own memory", x.asks(0, 0, 1), 9);
        Due.due("one's own memory", x.asks(1, 0, 1), 10);
    }

    private static void fault(String text, int place) {
        FerriedInWords x = new FerriedInWords();
        x.person(Due.FATHER, 1, 2, 3);
        String was = Due.all(x);
        Due.due("text of '" + text + "'", Due.reads(x, text), -100 - place);
        Due.same("all", Due.all(x), was);
    }

    /** The fault is where the bar stands. */
    private static void faultAt(String barred) {
        int place = barred.indexOf('|');
        fault(barred.substring(0, place) + barred.substring(place + 1), place);
    }

    private static void fine(String text) {
        Due.due("text of '" + text + "'", Due.reads(new FerriedInWords(), text), 1);
    }

    private static void faults() {
        Due.promise("8 faults");
        faultAt("|");
        faultAt("   |");
        faultAt("keeps|");
        faultAt("keeps  \n|");
        faultAt("keeps 1|");
        faultAt("keeps 1;|");
        faultAt("keeps 1;tires 2;learns 3|");
        faultAt("keeps 1;tires 2;learns 3; |;");
        faultAt(ONE + "\n |keeps");
        faultAt(ONE + "|" + ONE);
        faultAt("|1");
        faultAt("|;");
        faultAt("|tires 1;");
        faultAt("|memory 1;");
        faultAt("keeps 1;|keeps 1;");
        faultAt("keeps 1;|learns 1;");
        faultAt("keeps 1;tires 1;|tires 1;");
        faultAt("keeps |;");
        faultAt("keeps |tires");
        faultAt("keeps 1 |tires 2;");
        faultAt("keeps 1 |2;");
        faultAt("keeps (1|;");
        faultAt("keeps (1+2*(3)|");
        faultAt("keeps 1|);");
        faultAt("keeps (|);");
        faultAt("keeps |or 1;");
        faultAt("keeps 1 or |and 1;");
        faultAt("keeps 1 or |;");
        faultAt("keeps 1+|;");
        faultAt("keeps 1+|+1;");
        faultAt("keeps |*1;");
        faultAt("keeps 1 * |* 1;");
        faultAt("keeps 1<2|<3;");
        faultAt("keeps 1<2|=3;");
        faultAt("keeps 1=|=3;");
        faultAt("keeps 1<|;");
        faultAt("keeps 1 |not 2;");
        faultAt("keeps 1+|not 2;");
        faultAt("keeps 1<|not 2;");
        faultAt("keeps not|;");
        faultAt("keeps -|;");
        faultAt("keeps -|not 1;");
        faultAt("keeps 1 |(2);");
        faultAt("keeps 1;tires 2;learns 3|,");
        fine("keeps1;tires2;learns3;");
        fine("  keeps\n1 ;\n\ntires not(not 2)\n;learns(3);  \n");
        fine("keeps not 1<2 and not 2=2 or - - 3*-4 < words+memory*number-day;tires parts;learns said;");
    }

    private static void faultsOfTokens() {
        faultAt("|Keeps 1;");
        faultAt("|keepsmemory;");
        faultAt("|keep 1;");
        faultAt("keeps |word;");
        faultAt("keeps |wordss;");
        faultAt("keeps |wordsz;");
        faultAt("keeps |wordsa;");
        faultAt("keeps |xords;");
        faultAt("|xeeps 1;");
        faultAt("|keepx 1;");
        faultAt("keeps |orwords;");
        faultAt("keeps 1 |notes;");
        faultAt("keeps |12345;");
        faultAt("keeps |00001;");
        faultAt("keeps 1+|99999999999999999999;");
        fine("keeps 9999;tires 0000;learns 0;");
        faultAt("keeps memory|1;");
        faultAt("keeps 1|memory;");
        faultAt("keeps 1 |> 2;");
        faultAt("keeps |.5;");
        faultAt("keeps 1|\t;");
        faultAt("keeps 1|\r;");
        faultAt("keeps 1|" + (char) 255 + ";");
        faultAt("keeps 1|" + (char) 0);
        faultAt("|" + (char) 200);
        faultAt("keeps |M");
        faultAt("keeps 1|{");
        faultAt("keeps 1|`");
        faultAt("keeps 1|/2;");
        faultAt("keeps 1|:");
    }

    /** What stood on the tape ahead, and what was read of it, is of no text that comes behind. */
    private static void faultsBehindOthers() {
        FerriedInWords x = new FerriedInWords();
        Due.due("five digits", Due.reads(x, "keeps 12345"), -106);
        Due.due("four digits", Due.reads(x, "keeps 1234"), -110);
        Due.due("no word", Due.reads(x, "keeps notx"), -106);
        Due.due("a word", Due.reads(x, "keeps not"), -109);
        String sum = "keeps 1" + "+1".repeat(76);
        for (int i = 0; i < 4; i++) Due.due("a long fault", Due.reads(x, sum), -100 - sum.length());
        x.person(Due.TELLER, 0, 0, 0);
        Due.rules(x, "6", "0", "0");
        Due.due("keeps 6", x.asks(0, 0, 1), 6);
    }

    private static void fiveOpen() {
        Due.promise("8 open");
        String end = ";tires 0;learns 0;";
        fine("keeps (((((1)))))" + end);
        faultAt("keeps (((((|(1))))))" + end);
        fine("keeps -----1" + end);
        faultAt("keeps -----|-1" + end);
        fine("keeps 1------1" + end);
        faultAt("keeps 1------|-1" + end);
        fine("keeps not not not not not 1" + end);
        faultAt("keeps not not not not not |not 1" + end);
        fine("keeps (((((1)))))+(((((2)))))" + end);
        fine("keeps -----1+-----2*-----3<-----4" + end);
        fine("keeps not not not not not 1<2 and not not not not not 1 or not not not not not 2" + end);
        fine("keeps -----1*(2)" + end);
        faultAt("keeps -----|(2)" + end);
        faultAt("keeps not not not not not 1<|(2)" + end);
        faultAt("keeps not not not not not 1+|-2" + end);
        fine("keeps not not not not not 1+2 and (2)" + end);
        faultAt("keeps not -(not -|(1" + end);
        faultAt("keeps ((((1+-2*3--|(4)))))" + end);
        faultAt("keeps not (-(not |-1))" + end);
        fine("keeps not (-(not 1))" + end);
        fine("keeps 1;tires (((((1)))));learns (((((1)))));");
        faultAt("keeps 1;tires (((((|(1))))));");
    }

    private static void force() {
        Due.promise("9");
        FerriedInWords x = new FerriedInWords();
        x.person(Due.TELLER, 0, 1023, 4);
        Due.due("force 1 of 1", x.force(1), -2);
        Due.reads(x, "keeps 2;tires 0;learns 0;");
        Due.reads(x, "keeps 7;tires 0;learns 0;");
        Due.due("reading is not forcing", x.asks(0, 0, 1), 4);
        Due.due("force 2", x.force(2), 0);
        Due.due("keeps", x.asks(0, 0, 1), 7);
        Due.due("force 1", x.force(1), 2);
        Due.due("keeps", x.asks(0, 0, 1), 2);
        Due.due("force 1 again", x.force(1), 1);
        for (int wrong : new int[] {-1, 3, 6, Due.MAX, Due.MIN}) Due.due("force " + wrong, x.force(wrong), -2);
        Due.due("the rule", x.count(5), 1);
        Due.due("force 0", x.force(0), 1);
        Due.due("keeps", x.asks(0, 0, 1), 4);
        for (int i = 3; i < 6; i++) Due.reads(x, ONE);
        Due.due("force 5", x.force(5), 0);
        Due.due("keeps", x.asks(0, 0, 1), 1);
    }
}
