/** What the tests share: answers held against what is due, and objects brought into a state. */
final class Due {
    static final int TELLER = 0, FATHER = 1, ENGINEER = 2, LIAR = 3, LOVER = 4, PLAIN = 5;
    static final int BYTES = 0, SHORTS = 1, INTS = 2, MISSING = -1;
    static final int MIN = Integer.MIN_VALUE, MAX = Integer.MAX_VALUE;
    static final int ALL = 1023;

    private static int asked = 0, wrong = 0;
    private static String promise = "";

    private Due() {
    }

    static void promise(String name) {
        promise = name;
    }

    static void due(String call, long got, long want) {
        asked++;
        if (got == want) return;
        wrong++;
        System.out.println(promise + ": " + call + " answered " + got + ", due is " + want);
    }

    static void same(String what, String got, String want) {
        asked++;
        if (got.equals(want)) return;
        wrong++;
        System.out.println(promise + ": " + what + " is now " + got + ", and was " + want);
    }

    static void end() {
        System.out.println(asked + " answers, " + wrong + " not as due");
        if (wrong != 0) System.exit(1);
    }

    /** A new object with one of the people. */
    static FerriedInWords with(int kind, int number, int words, int memory) {
        FerriedInWords x = new FerriedInWords();
        x.person(kind, number, words, memory);
        return x;
    }

    static int bits(int... parts) {
        int set = 0;
        for (int p : parts) set |= 1 << p;
        return set;
    }

    static void feeds(FerriedInWords x, String text) {
        for (int i = 0; i < text.length(); i++) x.feed(text.charAt(i));
    }

    static int reads(FerriedInWords x, String text) {
        feeds(x, text);
        return x.text();
    }

    /** The text is the rule from now on. */
    static void rules(FerriedInWords x, String text) {
        int number = reads(x, text);
        due("text of '" + text + "' (is one)", number > 0 ? 1 : number, 1);
        x.force(number);
    }

    static void rules(FerriedInWords x, String keeps, String tires, String learns) {
        rules(x, "keeps " + keeps + ";tires " + tires + ";learns " + learns + ";");
    }

    static void lists(FerriedInWords x, int sheet, int sort, int... numbers) {
        x.sheet(sheet, sort, numbers.length);
        for (int i = 0; i < numbers.length; i++) x.cell(sheet, i, numbers[i]);
    }

    /**
     * What a sheet holds at a place, of 0 .. 1023: as words of one who comes by it through a spare sheet. What is neither
     * that nor has room to come is below 0. People, the jetty and so on stay; the image goes.
     */
    static int held(FerriedInWords x, int sheet, int sort, int i, int spare) {
        x.image();
        x.sheet(spare, sort, 4);
        x.copy(sheet, i, spare, 2, 1);
        int came = x.crew(spare, sort, 0, 1);
        int words = came == 1 ? x.told(x.count(0) - 1, 2) : came - 1;
        x.back();
        return words;
    }

    static void holds(FerriedInWords x, int sheet, int sort, int spare, int... numbers) {
        for (int i = 0; i < numbers.length; i++) due("item " + i, held(x, sheet, sort, i, spare), numbers[i]);
        due("item behind the last", x.copy(sheet, numbers.length, sheet, numbers.length, 1), -12);
    }

    /** All that can be asked without a change, but for the sheets. */
    static String all(FerriedInWords x) {
        StringBuilder list = new StringBuilder();
        for (int what = 0; what < 6; what++) list.append(x.count(what)).append(' ');
        for (int one = 0; one < 5; one++) {
            for (int what = 1; what < 6; what++) list.append(x.told(one, what)).append(' ');
        }
        for (int place = 0; place < 8; place++) list.append(x.told(place, 6)).append(' ');
        return list.append(x.told(0, 8)).toString();
    }
}
