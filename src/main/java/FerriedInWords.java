/** Things told over a sound, from one to the next; ../shared/DOC.md says what each call promises. */
public final class FerriedInWords {
    public static final int NONE = -1, BAD = -2, STATE = -3, FULL = -4;
    public static final long NO = -4611686018427387904L;

    private static final int NO_SUCH = -1000, FAULT = -100;
    private static final int NOTHING = -11, OUTSIDE = -12, OF_ANOTHER = -13, BELOW_ZERO = -14;

    private static final int PARTS = 10, SETS = 1024, MOST_PEOPLE = 5, MOST_THINGS = 8;
    private static final int MOST_DAY = 999, MOST_COME = 999, MOST_NUMBER = 9, MOST_MEMORY = 99, MOST_SAID = 99;
    private static final int MOST_BYTES = 160, MOST_TEXTS = 6, MOST_OPEN = 5, MOST_DIGITS = 4, MOST_WORTH = 99;
    private static final int MOST_DAYS = 20, MOST_TIMES = 60, LONGEST_ROW = 3, MOST_DRAWN = 40, MOST_SEEDS = 40;
    private static final int SHEETS = 4, SORTS = 3, MOST_CELLS = 40, MOST_CAME = 5, SHORTS = 1;

    private static final int TELLER = 0, FATHER = 1, ENGINEER = 2, LIAR = 3, LOVER = 4, PLAIN = 5, KINDS = 6;

    /** What set() and told() ask for; past COME, what else can be varied in thought. */
    private static final int DAY = 0, NUMBER = 1, WORDS = 2, MEMORY = 3, SAID = 4, KIND = 5;
    private static final int THING = 6, THINGS = 7, COME = 8, RULE = 9, WHO = 10;

    /** How the values that would tell so are answered. */
    private static final int AS_BITS = 0, HOW_MANY = 1, THE_LEAST = 2;

    /** The three parts of a text. */
    private static final int KEEPS = 0, TIRES = 1, LEARNS = 2, TEXT_PARTS = 3;
    private static final String FIRST_TEXT = "keeps memory ; tires 0 ; learns 0 ;";

    /** Tokens; a sign is told by its own byte. */
    private static final int END = -1, ODD = -2, A_NUMBER = -3, A_NAME = -4;
    private static final int KEY_KEEPS = -5, KEY_TIRES = -6, KEY_LEARNS = -7, KEY_OR = -8, KEY_AND = -9, KEY_NOT = -10;

    /** Codes of a text that has been read, behind one another as they are worked; a number is its own code. */
    private static final int GET_WORDS = -1, GET_MEMORY = -2, GET_NUMBER = -3, GET_DAY = -4, GET_PARTS = -5, GET_SAID = -6;
    private static final int DO_NOT = -11, DO_TURN = -12;
    private static final int DO_OR = -21, DO_AND = -22, DO_LESS = -23, DO_LIKE = -24;
    private static final int DO_PLUS = -25, DO_LESSEN = -26, DO_TIMES = -27;

    private final Teller[] kinds = new Teller[KINDS];
    private final Crossing now = new Crossing();
    private final Crossing kept = new Crossing();
    /** Where all is tried that happens in thought only. */
    private final Crossing thought = new Crossing();
    private boolean hasImage;
    private final Text[] texts = new Text[MOST_TEXTS];
    private final Reader reader;
    private int textsThere;
    private final int[] stack = new int[MOST_BYTES];
    private final Sheet[] sheets = new Sheet[SHEETS];
    private final int[] trail = new int[MOST_TIMES + 1];
    private int bestRow;
    private int bestOff;

    public FerriedInWords() {
        kinds[TELLER] = new Teller();
        kinds[FATHER] = new Father();
        kinds[ENGINEER] = new Engineer();
        kinds[LIAR] = new Liar();
        kinds[LOVER] = new Lover();
        kinds[PLAIN] = new Plain();
        for (int i = 0; i < SHEETS; i++) sheets[i] = new Sheet();
        for (int i = 0; i < MOST_TEXTS; i++) texts[i] = new Text();
        reader = new Reader(texts[0]);
        for (int i = 0; i < FIRST_TEXT.length(); i++) reader.put(FIRST_TEXT.charAt(i));
        reader.readInto(texts[0]);
        textsThere = 1;
    }

    // ---- people, the jetty

    public int set(int what, int of, int v) {
        if (what < DAY || what > SAID) return BAD;
        if (what != DAY && !now.isThere(of)) return BAD;
        if (v < 0 || v > most(what)) return BAD;
        if (what == DAY) {
            int was = now.day;
            now.day = v;
            return was;
        }
        One one = now.people[of];
        int was = one.worth(what);
        one.become(what, v);
        return was;
    }

    public int person(int kind, int number, int words, int memory) {
        if (kind < 0 || kind >= KINDS || number < 0 || number > MOST_NUMBER) return BAD;
        if (!isSet(words) || memory < 0 || memory > MOST_MEMORY) return BAD;
        if (now.there >= MOST_PEOPLE) return FULL;
        One one = now.people[now.there];
        one.kind = kind;
        one.number = number;
        one.words = words;
        one.memory = memory;
        one.said = 0;
        now.there++;
        return now.there - 1;
    }

    public int told(int of, int what) {
        switch (what) {
            case DAY: return now.day;
            case NUMBER: case WORDS: case MEMORY: case SAID: case KIND:
                return now.isThere(of) ? now.people[of].worth(what) : NO_SUCH;
            case THING: return of >= 0 && of < now.things ? now.jetty[of] : NO_SUCH;
            case THINGS: return now.things;
            case COME: return now.come;
            default: return NO_SUCH;
        }
    }

    public int brings(int thing) {
        if (thing < 1 || thing >= SETS) return BAD;
        if (now.things >= MOST_THINGS) return FULL;
        now.jetty[now.things] = thing;
        now.things++;
        return now.things;
    }

    public int asks(int one, int thing, int what) {
        if (!now.isThere(one) || !isSet(thing)) return BAD;
        One asked = now.people[one];
        switch (what) {
            case 0: return telling(now, asked, thing);
            case 1: return keeping(now, asked, thing);
            case 2: return tiring(now, asked, thing);
            case 3: return learning(now, asked, thing) ? 1 : 0;
            default: return BAD;
        }
    }

    private static int most(int what) {
        switch (what) {
            case DAY: return MOST_DAY;
            case NUMBER: return MOST_NUMBER;
            case WORDS: return SETS - 1;
            case MEMORY: return MOST_MEMORY;
            default: return MOST_SAID;
        }
    }

    private static boolean isSet(int parts) {
        return parts >= 0 && parts < SETS;
    }

    // ---- texts

    public int feed(int letter) {
        if (letter < 0 || letter > 255) return BAD;
        return reader.put(letter) ? reader.size : FULL;
    }

    public int text() {
        if (textsThere >= MOST_TEXTS) return FULL;
        int fault = reader.readInto(texts[textsThere]);
        if (fault != NONE) return FAULT - fault;
        textsThere++;
        return textsThere - 1;
    }

    public int force(int text) {
        if (text < 0 || text >= textsThere) return BAD;
        int was = now.rule;
        now.rule = text;
        return was;
    }

    private Text ruleOf(Crossing at) {
        return at.rule >= 0 && at.rule < MOST_TEXTS ? texts[at.rule] : texts[0];
    }

    // ---- tellings, days

    public int over(int sheet, int thing, int what) {
        if (!isSheet(sheet) || !isSet(thing) || what < 0 || what > 3) return BAD;
        Sheet row = sheets[sheet];
        if (row.isMissing()) return NOTHING;
        for (int i = 0; i < row.size; i++) {
            if (!now.isThere(row.cells[i])) return BAD;
        }
        int comes = toldByRow(row, thing);
        switch (what) {
            case 0: return comes;
            case 1: return off(comes, thing);
            case 2: return thing & ~comes;
            default: return comes & ~thing;
        }
    }

    public int day() {
        if (now.day >= MOST_DAY) return STATE;
        return passDay(now);
    }

    public int run(int n, int what) {
        if (n < 0 || n > MOST_DAYS || !isAskedOfRun(what)) return NO_SUCH;
        int last = NONE;
        int many = 0;
        thought.become(now);
        for (int i = 0; i < n; i++) {
            int comes = passDay(thought);
            if (comes != NONE) {
                last = comes;
                many++;
            }
        }
        if (what == 0) return last;
        if (what == 1) return many;
        return what < 20 ? thought.people[what - 10].words : thought.people[what - 20].memory;
    }

    private boolean isAskedOfRun(int what) {
        return what == 0 || what == 1 || now.isThere(what - 10) || now.isThere(what - 20);
    }

    private Teller kindOf(One one) {
        return one.kind >= 0 && one.kind < KINDS ? kinds[one.kind] : kinds[TELLER];
    }

    private int keeping(Crossing at, One one, int thing) {
        return within(kindOf(one).keptOf(ruleOf(at).worth(KEEPS, one, thing, at.day, stack), at.day), PARTS);
    }

    private int telling(Crossing at, One one, int thing) {
        return kindOf(one).wordsFor(one, thing, keeping(at, one, thing));
    }

    private int tiring(Crossing at, One one, int thing) {
        return kindOf(one).wearies(ruleOf(at).worth(TIRES, one, thing, at.day, stack), one);
    }

    private boolean learning(Crossing at, One one, int thing) {
        return kindOf(one).takesIn(ruleOf(at).worth(LEARNS, one, thing, at.day, stack) != 0, thing);
    }

    private int toldByAll(Crossing at, int thing) {
        int comes = thing;
        for (int i = 0; i < at.there; i++) comes = telling(at, at.people[i], comes);
        return comes;
    }

    private int toldByRow(Sheet row, int thing) {
        int comes = thing;
        for (int i = 0; i < row.size; i++) {
            int who = row.cells[i];
            if (now.isThere(who)) comes = telling(now, now.people[who], comes);
        }
        return comes;
    }

    private int passDay(Crossing at) {
        int comes = NONE;
        if (at.things > 0) {
            comes = at.takeFirst();
            for (int i = 0; i < at.there; i++) comes = tellTruly(at, at.people[i], comes);
            if (at.come < MOST_COME) at.come++;
        }
        at.day++;
        return comes;
    }

    /** All is told ahead of the changes: one learns and tires by what one was as one was told. */
    private int tellTruly(Crossing at, One one, int thing) {
        int comes = telling(at, one, thing);
        int tired = tiring(at, one, thing);
        if (learning(at, one, thing)) one.words |= lowest(thing & ~one.words);
        one.memory = Math.max(0, one.memory - tired);
        one.said = Math.min(MOST_SAID, one.said + 1);
        return comes;
    }

    private static int off(int one, int other) {
        return Integer.bitCount(one ^ other);
    }

    private static int lowest(int parts) {
        return parts & -parts;
    }

    private static int within(int v, int most) {
        return Math.max(0, Math.min(most, v));
    }

    // ---- what would be best

    public int fro(int thing, int what) {
        if (!isSet(thing) || what < 0 || what > 1) return BAD;
        trail[0] = thing;
        for (int times = 1; times <= MOST_TIMES; times++) {
            trail[times] = toldByAll(now, trail[times - 1]);
            for (int ahead = 0; ahead < times; ahead++) {
                if (trail[ahead] == trail[times]) return what == 0 ? times : trail[times];
            }
        }
        return NONE;
    }

    public int row(int thing, int n, int what) {
        if (!isSet(thing) || n < 1 || n > LONGEST_ROW || what < 0 || what > 1) return BAD;
        bestRow = NONE;
        bestOff = NONE;
        for (int size = 1; size <= n; size++) tryRows(thing, thing, 0, 0, size);
        return what == 0 ? bestRow : bestOff;
    }

    /** Tries all rows that go on with so many more people; the first found of like ones is kept. */
    private void tryRows(int thing, int comes, int digits, int taken, int more) {
        if (more <= 0) {
            int off = off(thing, comes);
            if (bestOff == NONE || off < bestOff) {
                bestOff = off;
                bestRow = digits;
            }
            return;
        }
        for (int i = 0; i < now.there; i++) {
            if ((taken & (1 << i)) != 0) continue;
            tryRows(thing, telling(now, now.people[i], comes), digits * 10 + i + 1, taken | (1 << i), more - 1);
        }
    }

    public int learn(int thing, int what) {
        if (!isSet(thing) || what < 0 || what > 1) return BAD;
        int best = NONE;
        int fewest = PARTS + 1;
        thought.become(now);
        for (int set = 0; set < SETS; set++) {
            int size = Integer.bitCount(set);
            if (size < fewest && toldWithMore(set, thing) == thing) {
                best = set;
                fewest = size;
            }
        }
        if (best == NONE) return NONE;
        return what == 0 ? best : fewest;
    }

    private int toldWithMore(int set, int thing) {
        for (int i = 0; i < thought.there; i++) thought.people[i].words = now.people[i].words | set;
        return toldByAll(thought, thing);
    }

    public int from(int thing, int what) {
        if (!isSet(thing) || what < 0 || what > 1) return BAD;
        int many = 0;
        int least = NONE;
        for (int other = 0; other < SETS; other++) {
            if (toldByAll(now, other) != thing) continue;
            if (many == 0) least = other;
            many++;
        }
        return what == 0 ? many : least;
    }

    public long mean(int part) {
        if (part < 0 || part > 1 || now.there == 0) return NO;
        int together = 0;
        for (int i = 0; i < now.there; i++) together += Integer.bitCount(now.people[i].words);
        return inLowestTerms(together, now.there, part);
    }

    private static long inLowestTerms(int above, int below, int part) {
        int divisor = commonDivisor(above, below);
        if (divisor == 0) return NO;
        return (part == 0 ? above : below) / divisor;
    }

    private static int commonDivisor(int a, int b) {
        int large = a;
        int small = b;
        for (int step = 0; step < 64 && small != 0; step++) {
            int rest = large % small;
            large = small;
            small = rest;
        }
        return large;
    }

    // ---- what was told of one

    public int tells(int sheet, int one, int what) {
        if (!isSheet(sheet) || !now.isThere(one) || what < 0 || what > 8) return BAD;
        Sheet said = sheets[sheet];
        if (said.isMissing()) return NOTHING;
        if (said.size > PARTS) return BAD;
        thought.become(now);
        switch (what) {
            case 0: return firstOtherwise(said, one);
            case 1: return suiting(said, one, KIND, KINDS, AS_BITS);
            case 2: return suiting(said, one, NUMBER, MOST_NUMBER + 1, AS_BITS);
            case 3: return suiting(said, one, MEMORY, MOST_MEMORY + 1, HOW_MANY);
            case 4: return suiting(said, one, MEMORY, MOST_MEMORY + 1, THE_LEAST);
            case 5: return suiting(said, one, WORDS, SETS, HOW_MANY);
            case 6: return suiting(said, one, WORDS, SETS, THE_LEAST);
            case 7: return suiting(said, one, RULE, textsThere, AS_BITS);
            default: return suiting(said, one, WHO, thought.there, AS_BITS);
        }
    }

    /** Of the values of what is varied, those by which one would tell all as the sheet has it. */
    private int suiting(Sheet said, int one, int varied, int values, int answer) {
        int bits = 0;
        int many = 0;
        int least = NONE;
        for (int v = 0; v < values; v++) {
            int who = varied == WHO ? v : one;
            vary(who, varied, v);
            if (firstOtherwise(said, who) != NONE) continue;
            if (many == 0) least = v;
            many++;
            if (v < 31) bits |= 1 << v;
        }
        switch (answer) {
            case AS_BITS: return bits;
            case HOW_MANY: return many;
            default: return least;
        }
    }

    private void vary(int who, int varied, int v) {
        if (varied == RULE) thought.rule = v;
        else if (varied != WHO && thought.isThere(who)) thought.people[who].become(varied, v);
    }

    /** Of one who is there in thought. */
    private int firstOtherwise(Sheet said, int one) {
        if (!thought.isThere(one)) return 0;
        for (int i = 0; i < said.size; i++) {
            if (telling(thought, thought.people[one], 1 << i) != said.cells[i]) return i;
        }
        return NONE;
    }

    public int film(int sheet, int one) {
        if (!isSheet(sheet) || !now.isThere(one)) return BAD;
        Sheet film = sheets[sheet];
        int whole = 0;
        film.become(SHORTS, PARTS);
        for (int i = 0; i < PARTS; i++) {
            int comes = telling(now, now.people[one], 1 << i);
            film.put(i, comes);
            if (comes == 1 << i) whole++;
        }
        return whole;
    }

    public int drawn(int seed, int n) {
        if (n < 0 || n > MOST_DRAWN) return BAD;
        return offOfDrawn(seed, n);
    }

    public long chance(int seed, int m, int k, int part) {
        if (m < 1 || m > MOST_SEEDS || k < 0 || k > PARTS || part < 0 || part > 1) return NO;
        int many = 0;
        for (int i = 0; i < m; i++) {
            if (offOfDrawn(seed + i, 1) <= k) many++;
        }
        return inLowestTerms(many, m, part);
    }

    private int offOfDrawn(int seed, int n) {
        int z = seed;
        int together = 0;
        for (int i = 0; i < n; i++) {
            z = z * 1103515245 + 12345;
            int thing = (z >>> 9) % SETS;
            together += off(thing, toldByAll(now, thing));
        }
        return together;
    }

    public int image() {
        kept.become(now);
        hasImage = true;
        return kept.there;
    }

    public int back() {
        if (!hasImage) return STATE;
        now.become(kept);
        return now.there;
    }

    public int count(int what) {
        switch (what) {
            case 0: return now.there;
            case 1: return now.things;
            case 2: return now.day;
            case 3: return textsThere;
            case 4: return reader.size;
            case 5: return now.rule;
            default: return BAD;
        }
    }

    // ---- the host

    public int sheet(int sheet, int sort, int n) {
        if (!isSheet(sheet) || sort < NONE || sort >= SORTS) return BAD;
        if (sort == NONE) {
            sheets[sheet].become(NONE, 0);
            return 1;
        }
        if (n > MOST_CELLS) return BAD;
        if (n < 0) return BELOW_ZERO;
        sheets[sheet].become(sort, n);
        return 1;
    }

    public int cell(int sheet, int i, int v) {
        if (!isSheet(sheet)) return BAD;
        if (sheets[sheet].isMissing()) return NOTHING;
        if (!sheets[sheet].has(i, 1)) return OUTSIDE;
        sheets[sheet].put(i, v);
        return 1;
    }

    public int copy(int sheet, int i, int other, int j, int n) {
        if (!isSheet(sheet) || !isSheet(other)) return BAD;
        Sheet source = sheets[sheet];
        Sheet goal = sheets[other];
        if (source.isMissing() || goal.isMissing()) return NOTHING;
        if (source.sort != goal.sort) return OF_ANOTHER;
        if (!source.has(i, n) || !goal.has(j, n)) return OUTSIDE;
        System.arraycopy(source.cells, i, goal.cells, j, n);
        return n;
    }

    public int crew(int sheet, int sort, int from, int n) {
        if (!isSheet(sheet) || sort < 0 || sort >= SORTS || n < 0 || n > MOST_CAME) return BAD;
        Sheet list = sheets[sheet];
        if (list.isMissing()) return NOTHING;
        if (list.sort != sort) return OF_ANOTHER;
        int many = 0;
        int place = from;
        for (int i = 0; i < n; i++) {
            if (!list.has(place, 4)) return OUTSIDE;
            int[] cells = list.cells;
            if (person(cells[place], cells[place + 1], cells[place + 2], cells[place + 3]) >= 0) many++;
            place += 4;
        }
        return many;
    }

    public int taken(int one, int k) {
        if (k < 0 || k >= KINDS) return BAD;
        if (!now.isThere(one)) return NOTHING;
        One asked = now.people[one];
        return kindOf(asked).isUnder(k) ? asked.number : OF_ANOTHER;
    }

    private static boolean isSheet(int sheet) {
        return sheet >= 0 && sheet < SHEETS;
    }

    // ---- people, and how each kind tells

    private static final class One {
        int kind;
        int number;
        int words;
        int memory;
        int said;

        int worth(int what) {
            switch (what) {
                case NUMBER: return number;
                case WORDS: return words;
                case MEMORY: return memory;
                case SAID: return said;
                default: return kind;
            }
        }

        void become(int what, int v) {
            switch (what) {
                case NUMBER: number = v; break;
                case WORDS: words = v; break;
                case MEMORY: memory = v; break;
                case SAID: said = v; break;
                default: kind = v;
            }
        }

        void become(One other) {
            kind = other.kind;
            number = other.number;
            words = other.words;
            memory = other.memory;
            said = other.said;
        }
    }

    /** A kind: it holds nothing of those who are of it, so that one can be taken in thought for another kind. */
    private static class Teller {
        boolean isUnder(int kind) {
            return kind == TELLER;
        }

        int keptOf(int v, int day) {
            return v;
        }

        int wordsFor(One one, int thing, int keeps) {
            int known = thing & one.words;
            int comes = 0;
            for (int i = 0; i < keeps && known != 0; i++) {
                int first = lowest(known);
                comes |= first;
                known &= ~first;
            }
            return comes;
        }

        int wearies(int v, One one) {
            return v;
        }

        boolean takesIn(boolean yes, int thing) {
            return yes;
        }
    }

    private static class Father extends Teller {
        boolean isUnder(int kind) {
            return kind == FATHER || super.isUnder(kind);
        }

        int keptOf(int v, int day) {
            return super.keptOf(v, day) + 1;
        }

        int wordsFor(One one, int thing, int keeps) {
            return super.wordsFor(one, thing, keeps) | (1 << one.number);
        }

        int wearies(int v, One one) {
            return 0;
        }

        boolean takesIn(boolean yes, int thing) {
            return false;
        }
    }

    private static class Engineer extends Teller {
        boolean isUnder(int kind) {
            return kind == ENGINEER || super.isUnder(kind);
        }

        int keptOf(int v, int day) {
            return super.keptOf(v, day) * 2;
        }

        int wordsFor(One one, int thing, int keeps) {
            int comes = super.wordsFor(one, thing, keeps);
            return comes | (comes << 1 & thing);
        }

        int wearies(int v, One one) {
            return super.wearies(v, one) + 1;
        }

        boolean takesIn(boolean yes, int thing) {
            return yes || Integer.bitCount(thing) == 1;
        }
    }

    private static final class Liar extends Father {
        boolean isUnder(int kind) {
            return kind == LIAR || super.isUnder(kind);
        }

        int wordsFor(One one, int thing, int keeps) {
            return super.wordsFor(one, thing, keeps) ^ (1 << (MOST_NUMBER - one.number));
        }

        int wearies(int v, One one) {
            return one.number;
        }

        boolean takesIn(boolean yes, int thing) {
            return yes;
        }
    }

    private static final class Lover extends Engineer {
        boolean isUnder(int kind) {
            return kind == LOVER || super.isUnder(kind);
        }

        int keptOf(int v, int day) {
            return day % 4 == 0 ? PARTS : super.keptOf(v, day);
        }

        int wordsFor(One one, int thing, int keeps) {
            int comes = super.wordsFor(one, thing, keeps);
            return comes == 0 ? 0 : comes | (one.words & (lowest(comes) - 1));
        }

        int wearies(int v, One one) {
            return super.wearies(v, one) / 2;
        }
    }

    private static final class Plain extends Teller {
        private static final int UP_TO_4 = 31;

        boolean isUnder(int kind) {
            return kind == PLAIN || super.isUnder(kind);
        }

        int keptOf(int v, int day) {
            return super.keptOf(v, day) / 2;
        }

        int wordsFor(One one, int thing, int keeps) {
            return super.wordsFor(one, thing, keeps) & UP_TO_4;
        }

        int wearies(int v, One one) {
            return one.said % 2 == 0 ? super.wearies(v, one) : 0;
        }

        boolean takesIn(boolean yes, int thing) {
            return false;
        }
    }

    /** All that an image keeps. */
    private static final class Crossing {
        final One[] people = new One[MOST_PEOPLE];
        final int[] jetty = new int[MOST_THINGS];
        int there;
        int things;
        int day;
        int come;
        int rule;

        Crossing() {
            for (int i = 0; i < MOST_PEOPLE; i++) people[i] = new One();
        }

        boolean isThere(int one) {
            return one >= 0 && one < there;
        }

        /** Only where there is a thing. */
        int takeFirst() {
            int first = jetty[0];
            for (int i = 1; i < things; i++) jetty[i - 1] = jetty[i];
            things--;
            return first;
        }

        void become(Crossing other) {
            there = other.there;
            things = other.things;
            day = other.day;
            come = other.come;
            rule = other.rule;
            for (int i = 0; i < there; i++) people[i].become(other.people[i]);
            for (int i = 0; i < things; i++) jetty[i] = other.jetty[i];
        }
    }

    // ---- a text, and how it is read

    private static final class Text {
        final int[] codes = new int[MOST_BYTES];
        /** Where the codes of each part end. */
        final int[] ends = new int[TEXT_PARTS];
        int size;

        void add(int code) {
            if (size < MOST_BYTES) {
                codes[size] = code;
                size++;
            }
        }

        int worth(int part, One one, int thing, int day, int[] stack) {
            if (part < 0 || part >= TEXT_PARTS) return 0;
            int top = 0;
            for (int i = part == 0 ? 0 : ends[part - 1]; i < ends[part]; i++) {
                int code = codes[i];
                if (code >= GET_SAID) {
                    if (top >= stack.length) return 0;
                    stack[top] = code >= 0 ? code : named(code, one, thing, day);
                    top++;
                } else if (code >= DO_TURN) {
                    if (top < 1) return 0;
                    stack[top - 1] = ofOne(code, stack[top - 1]);
                } else {
                    if (top < 2) return 0;
                    top--;
                    stack[top - 1] = ofTwo(code, stack[top - 1], stack[top]);
                }
            }
            return top > 0 ? within(stack[top - 1], MOST_WORTH) : 0;
        }

        private static int named(int code, One one, int thing, int day) {
            switch (code) {
                case GET_WORDS: return Integer.bitCount(one.words);
                case GET_MEMORY: return one.memory;
                case GET_NUMBER: return one.number;
                case GET_DAY: return day;
                case GET_PARTS: return Integer.bitCount(thing);
                default: return one.said;
            }
        }

        private static int ofOne(int code, int a) {
            if (code == DO_NOT) return a == 0 ? 1 : 0;
            return -a;
        }

        private static int ofTwo(int code, int a, int b) {
            switch (code) {
                case DO_OR: return a != 0 || b != 0 ? 1 : 0;
                case DO_AND: return a != 0 && b != 0 ? 1 : 0;
                case DO_LESS: return a < b ? 1 : 0;
                case DO_LIKE: return a == b ? 1 : 0;
                case DO_PLUS: return a + b;
                case DO_LESSEN: return a - b;
                default: return a * b;
            }
        }
    }

    /** The tape, and what reads it. Behind a fault it stands on an odd token, which can stand nowhere. */
    private static final class Reader {
        final int[] tape = new int[MOST_BYTES];
        int size;
        /** The tokens of the tape, the end behind them: what each is, a name's code or a number, where it begins. */
        private final int[] tokens = new int[MOST_BYTES + 1];
        private final int[] values = new int[MOST_BYTES + 1];
        private final int[] places = new int[MOST_BYTES + 1];
        private int many;
        private int at;
        private int token;
        private int fault;
        private Text goal;

        Reader(Text text) {
            goal = text;
        }

        boolean put(int letter) {
            if (size >= MOST_BYTES) return false;
            tape[size] = letter;
            size++;
            return true;
        }

        /** Where the fault is, or NONE; the tape is empty then. */
        int readInto(Text text) {
            goal = text;
            goal.size = 0;
            split();
            fault = NONE;
            at = 0;
            token = tokens[0];
            readPart(KEY_KEEPS, KEEPS);
            readPart(KEY_TIRES, TIRES);
            readPart(KEY_LEARNS, LEARNS);
            expect(END);
            size = 0;
            return fault;
        }

        private void readPart(int key, int part) {
            expect(key);
            readOrs(0);
            expect(';');
            if (part >= 0 && part < TEXT_PARTS) goal.ends[part] = goal.size;
        }

        private void readOrs(int open) {
            readAnds(open);
            for (int i = 0; i < MOST_BYTES && token == KEY_OR; i++) {
                advance();
                readAnds(open);
                goal.add(DO_OR);
            }
        }

        private void readAnds(int open) {
            readNot(open);
            for (int i = 0; i < MOST_BYTES && token == KEY_AND; i++) {
                advance();
                readNot(open);
                goal.add(DO_AND);
            }
        }

        private void readNot(int open) {
            if (token == KEY_NOT) {
                if (!opens(open)) return;
                readNot(open + 1);
                goal.add(DO_NOT);
                return;
            }
            readSum(open);
            if (token == '<' || token == '=') {
                int code = token == '<' ? DO_LESS : DO_LIKE;
                advance();
                readSum(open);
                goal.add(code);
            }
        }

        private void readSum(int open) {
            readTerm(open);
            for (int i = 0; i < MOST_BYTES && (token == '+' || token == '-'); i++) {
                int code = token == '+' ? DO_PLUS : DO_LESSEN;
                advance();
                readTerm(open);
                goal.add(code);
            }
        }

        private void readTerm(int open) {
            readOne(open);
            for (int i = 0; i < MOST_BYTES && token == '*'; i++) {
                advance();
                readOne(open);
                goal.add(DO_TIMES);
            }
        }

        private void readOne(int open) {
            if (token == A_NUMBER || token == A_NAME) {
                goal.add(values[at]);
                advance();
            } else if (token == '-') {
                if (!opens(open)) return;
                readOne(open + 1);
                goal.add(DO_TURN);
            } else if (token == '(') {
                if (!opens(open)) return;
                readOrs(open + 1);
                expect(')');
            } else {
                fail();
            }
        }

        /** Goes on behind what opens one more, if so many may be open. */
        private boolean opens(int open) {
            if (open >= MOST_OPEN) {
                fail();
                return false;
            }
            advance();
            return true;
        }

        private void expect(int wanted) {
            if (token == wanted) advance();
            else fail();
        }

        private void fail() {
            if (fault == NONE) fault = places[at];
            token = ODD;
        }

        private void advance() {
            if (fault != NONE || at + 1 >= many) return;
            at++;
            token = tokens[at];
        }

        private void split() {
            many = 0;
            int next = 0;
            while (next < size) {
                boolean isBlank = tape[next] == ' ' || tape[next] == '\n';
                next = isBlank ? next + 1 : Math.max(next + 1, splitOff(next));
            }
            addToken(END, 0, size);
        }

        private void addToken(int what, int value, int place) {
            if (many >= tokens.length) return;
            tokens[many] = what;
            values[many] = value;
            places[many] = place;
            many++;
        }

        /** The place behind the token. */
        private int splitOff(int place) {
            int first = tape[place];
            if (first >= 'a' && first <= 'z') return splitWord(place);
            if (first >= '0' && first <= '9') return splitNumber(place);
            addToken(isSign(first) ? first : ODD, 0, place);
            return place + 1;
        }

        private int splitWord(int place) {
            int behind = place;
            while (behind < size && tape[behind] >= 'a' && tape[behind] <= 'z') behind++;
            int name = nameCode(place, behind);
            addToken(name != 0 ? A_NAME : keyToken(place, behind), name, place);
            return behind;
        }

        private int splitNumber(int place) {
            int behind = place;
            int value = 0;
            while (behind < size && tape[behind] >= '0' && tape[behind] <= '9') {
                value = value * 10 + tape[behind] - '0';
                behind++;
            }
            addToken(behind - place <= MOST_DIGITS ? A_NUMBER : ODD, value, place);
            return behind;
        }

        private static boolean isSign(int letter) {
            switch (letter) {
                case '(': case ')': case ';': case '+': case '-': case '*': case '<': case '=': return true;
                default: return false;
            }
        }

        private int nameCode(int from, int to) {
            if (isWord("words", from, to)) return GET_WORDS;
            if (isWord("memory", from, to)) return GET_MEMORY;
            if (isWord("number", from, to)) return GET_NUMBER;
            if (isWord("day", from, to)) return GET_DAY;
            if (isWord("parts", from, to)) return GET_PARTS;
            if (isWord("said", from, to)) return GET_SAID;
            return 0;
        }

        private int keyToken(int from, int to) {
            if (isWord("keeps", from, to)) return KEY_KEEPS;
            if (isWord("tires", from, to)) return KEY_TIRES;
            if (isWord("learns", from, to)) return KEY_LEARNS;
            if (isWord("or", from, to)) return KEY_OR;
            if (isWord("and", from, to)) return KEY_AND;
            if (isWord("not", from, to)) return KEY_NOT;
            return ODD;
        }

        private boolean isWord(String word, int from, int to) {
            if (from < 0 || to > size || to - from != word.length()) return false;
            for (int i = 0; i < word.length(); i++) {
                if (tape[from + i] != word.charAt(i)) return false;
            }
            return true;
        }
    }

    /** A row of numbers of a sort; it is missing as long as it is of none. */
    private static final class Sheet {
        final int[] cells = new int[MOST_CELLS];
        int sort = NONE;
        int size;

        boolean isMissing() {
            return sort == NONE;
        }

        /** Whether so many cells from i on are there. */
        boolean has(int i, int n) {
            return i >= 0 && n >= 0 && i <= size && n <= size - i;
        }

        void become(int ofSort, int n) {
            sort = ofSort;
            size = within(n, MOST_CELLS);
            for (int i = 0; i < size; i++) cells[i] = 0;
        }

        /** Only where there is a cell i. */
        void put(int i, int v) {
            switch (sort) {
                case 0: cells[i] = (byte) v; break;
                case 1: cells[i] = (short) v; break;
                default: cells[i] = v;
            }
        }
    }
}
