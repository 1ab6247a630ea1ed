/** A table on the border where men are exchanged for weeks of sun, as DOC.md tells it. */
public final class SunTable {
    public static final int NONE = -1;

    private static final int MOST_BYTES = 400;
    private static final int BYTES_FED = 20;
    private static final int MOST_LANDS = 5;
    private static final int MOST_RULES = 6;
    private static final int MOST_NOTES = 10;
    private static final int MOST_ACTS = 20;
    private static final int MOST_IMAGES = 4;
    private static final int MOST_MEN = 999;
    private static final int MOST_SUN = 99;
    private static final int MOST_BARN = 9999;
    private static final int MOST_RATE = 9;
    private static final int MOST_TURNS = 4;
    private static final int MOST_WEEKS = 60;
    private static final int MOST_BARE = 100;
    private static final int MOST_NEED = 20;
    private static final int LAST_TOLD = 60;
    private static final int LAST_WEEK = 999;
    private static final int NO_NUMBER = -100000;

    // What the bytes of a text are split into; those that join values also stand in a RULE.
    private static final int END = 0;
    private static final int NUMBER = 1;
    private static final int LONG_NUMBER = 2;
    private static final int STRANGE = 3;
    private static final int NEXT = 4;
    private static final int OPEN = 5;
    private static final int CLOSE = 6;
    private static final int PLUS = 7;
    private static final int MINUS = 8;
    private static final int TIMES = 9;
    private static final int OVER = 10;
    private static final int REST = 11;
    private static final int LESS = 12;
    private static final int SAME = 13;
    private static final int MORE = 14;
    private static final int LESS_OR_SAME = 15;
    private static final int MORE_OR_SAME = 16;
    private static final int WORD = 20;
    private static final int WORD_LAND = WORD;
    private static final int WORD_OTHER = 21;
    private static final int WORD_MEN = 22;
    private static final int WORD_SUN = 23;
    private static final int WORD_HAY = 24;
    private static final int WORD_BARN = 25;
    private static final int WORD_THEIR_MEN = 26;
    private static final int WORD_THEIR_SUN = 27;
    private static final int WORD_THEIR_HAY = 28;
    private static final int WORD_RATE = 29;
    private static final int WORD_SOON = 30;
    private static final int WORD_WEEK = 31;
    private static final int WORD_TABLE = 32;
    private static final int WORD_BUY = 33;
    private static final int WORD_IF = 34;
    private static final int WORD_NOT = 35;
    private static final int WORD_AND = 36;
    private static final int WORD_OR = 37;

    /** In the order of the signs' numbers from NEXT on. */
    private static final String SIGNS = ";[]+-*/%<=>";
    /** In the order of the words' numbers from WORD on; those up to week are VALUES. */
    private static final String WORDS =
        "land other men sun hay barn theirmen theirsun theirhay rate soon week table buy if not and or";
    private static final int VALUE_WORDS = 12;

    private static final int FAULT_STRANGE = 0;
    private static final int FAULT_NUMBER = 1;
    private static final int FAULT_DEEP = 2;
    private static final int FAULT_PARTS = 3;
    private static final int FAULT_CLAUSE = 4;

    private final Reader reader;
    private final TableText tableText;
    private final RuleText ruleText;
    private final Sheet spare;
    private final Rule[] rules;
    private int ruleCount;
    private final World now;
    private final World[] images;
    private final boolean[] made;
    private final Weeks weeks;
    private final Questions asked;

    public SunTable() {
        reader = new Reader();
        tableText = new TableText(reader);
        ruleText = new RuleText(reader);
        spare = new Sheet();
        rules = new Rule[MOST_RULES];
        for (int i = 0; i < MOST_RULES; i++) {
            rules[i] = new Rule();
        }
        now = new World();
        images = new World[MOST_IMAGES];
        for (int i = 0; i < MOST_IMAGES; i++) {
            images[i] = new World();
        }
        made = new boolean[MOST_IMAGES];
        weeks = new Weeks();
        asked = new Questions(now, rules);
    }

    public int feed(int a, int b, int c, int d, int e) {
        if (reader.length + BYTES_FED > MOST_BYTES) {
            return NONE;
        }
        reader.putNumber(a);
        reader.putNumber(b);
        reader.putNumber(c);
        reader.putNumber(d);
        reader.putNumber(e);
        return reader.length;
    }

    public int end(int n) {
        if (!within(n, 0, reader.length)) {
            return NONE;
        }
        reader.length = n;
        return n;
    }

    public int table() {
        reader.split();
        reader.length = 0;
        int fault = tableText.read(spare);
        if (fault != 0) {
            return -2 - fault;
        }
        spare.findSoon();
        now.begin(spare);
        return now.sheet.lands;
    }

    public int rule() {
        if (ruleCount >= MOST_RULES) {
            return NONE;
        }
        reader.split();
        reader.length = 0;
        int fault = ruleText.read(rules[ruleCount]);
        if (fault != 0) {
            return -2 - fault;
        }
        ruleCount++;
        return ruleCount - 1;
    }

    public int force(int rule) {
        if (!within(rule, NONE, ruleCount - 1)) {
            return -2;
        }
        int was = now.force;
        now.force = rule;
        return was;
    }

    public int land(int land, int what) {
        if (!isLand(land)) {
            return -2;
        }
        switch (what) {
            case 0: return now.state.men[land];
            case 1: return now.state.sun[land];
            case 2: return now.state.hay[land];
            case 3: return now.state.barn[land];
            case 4: return now.state.sellers(land);
            case 5: return now.state.from[land];
            default: return -2;
        }
    }

    public int told(int land, int week) {
        if (!isLand(land) || !within(week, 0, LAST_TOLD)) {
            return NONE;
        }
        return now.sheet.told[land][week];
    }

    public int week() {
        if (!now.sheet.there || now.state.week >= LAST_WEEK) {
            return NONE;
        }
        now.past.keep(now.state);
        weeks.follow(now.sheet, ruleOf(rules, now.force));
        return weeks.pass(now.state);
    }

    public int swap(int land, int other) {
        if (!areTwo(land, other) || !now.state.mayBuy(land, other)) {
            return NONE;
        }
        now.past.keep(now.state);
        now.state.buy(land, other);
        return now.state.men[land];
    }

    public int give(int land, int other, int men) {
        if (!areTwo(land, other) || !within(men, 1, 99) || now.state.men[land] < men) {
            return NONE;
        }
        now.past.keep(now.state);
        now.state.moveMen(land, other, men);
        return now.state.men[land];
    }

    public int fight(int one, int other) {
        if (!areTwo(one, other)) {
            return NONE;
        }
        State state = now.state;
        int fewer = Math.min(state.men[one], state.men[other]);
        if (fewer < 1) {
            return NONE;
        }
        now.past.keep(state);
        int lost = (fewer + 1) / 2;
        state.men[one] -= lost;
        state.men[other] -= lost;
        return lost;
    }

    public int set(int rate) {
        if (!now.sheet.there || !within(rate, 1, MOST_RATE) || rate == now.state.rate) {
            return NONE;
        }
        now.past.keep(now.state);
        int was = now.state.rate;
        now.state.rate = rate;
        return was;
    }

    public int undo() {
        return now.past.takeBack(now.state) ? now.past.size : -2;
    }

    public int ahead(int land, int n, int what) {
        if (!isLand(land) || !within(n, 0, 100) || !within(what, 0, 3)) {
            return NONE;
        }
        State then = asked.after(n);
        switch (what) {
            case 0: return then.men[land];
            case 1: return then.sun[land];
            case 2: return then.hay[land];
            default: return then.barn[land];
        }
    }

    public int bare(int land) {
        return isLand(land) ? asked.firstBare(land) : NONE;
    }

    public int row(int land, int n, int what) {
        if (!isLand(land) || !within(n, 1, MOST_TURNS) || !within(what, 0, MOST_TURNS)) {
            return -3;
        }
        if (what > n) {
            return -2;
        }
        asked.findRow(land, n);
        return what == 0 ? asked.amount : asked.chosen[what - 1];
    }

    public int best(int n, int what) {
        if (!isSpan(n) || !within(what, 0, 1)) {
            return NONE;
        }
        asked.findRate(n);
        return what == 0 ? asked.which : asked.amount;
    }

    public int quiet() {
        return now.sheet.there ? asked.firstQuiet() : NONE;
    }

    public int worth(int land, int men, int n) {
        if (!isLand(land) || !within(men, 1, 99) || !isSpan(n)) {
            return NO_NUMBER;
        }
        return asked.worthOf(land, men, n);
    }

    public int need(int land, int barn, int n) {
        if (!isLand(land) || !within(barn, 1, MOST_BARN) || !isSpan(n)) {
            return NONE;
        }
        return asked.leastSun(land, barn, n);
    }

    public int game(int one, int other, int n, int what) {
        if (!areTwo(one, other) || !within(n, 1, MOST_TURNS) || !within(what, 0, 1)) {
            return NO_NUMBER;
        }
        asked.play(one, other, n);
        return what == 0 ? asked.amount : asked.which;
    }

    public int shun(int n, int what) {
        if (!isSpan(n) || !within(what, 0, 2)) {
            return NONE;
        }
        asked.findShunned(n);
        switch (what) {
            case 0: return Integer.bitCount(asked.which);
            case 1: return asked.which;
            default: return asked.amount;
        }
    }

    public int mother(int n, int what) {
        if (!isSpan(n) || !within(what, 0, 1)) {
            return -2;
        }
        asked.findMothered(n);
        return what == 0 ? asked.which : asked.amount;
    }

    public int parts(int barley, int land) {
        if (!isLand(land) || !within(barley, 0, 9999)) {
            return NONE;
        }
        return now.state.partOf(barley, land);
    }

    public int note(int n, int land, int other) {
        if (n == NONE) {
            now.noteCount = 0;
            return 0;
        }
        if (!within(n, 0, LAST_TOLD) || !isLand(land) || land == other) {
            return -2;
        }
        if (other != NONE && !isLand(other)) {
            return -2;
        }
        return now.addNote(n, land, other) ? now.noteCount : -2;
    }

    public int ruled(int what) {
        if (!now.sheet.there || !within(what, 0, 1)) {
            return -3;
        }
        asked.findRules(ruleCount, NONE);
        return what == 0 ? asked.amount : asked.which;
    }

    public int look(int n, int what) {
        if (!now.sheet.there || !within(n, 0, LAST_TOLD) || !within(what, 0, 1)) {
            return NONE;
        }
        asked.findRules(ruleCount, n);
        if (asked.amount < 1 || now.sheet.lands < 1) {
            return -2;
        }
        asked.findLook();
        return what == 0 ? asked.which : asked.amount;
    }

    public int seed(int x) {
        if (x < 0) {
            return NONE;
        }
        int was = now.drawn;
        now.drawn = x;
        return was;
    }

    public int summers(int m, int n, int p, int what) {
        if (!isSpan(n) || !within(m, 1, 10) || !within(p, 0, 100) || !within(what, 0, 1)) {
            return NONE;
        }
        asked.drawSummers(m, n, p);
        return what == 0 ? asked.amount : asked.which;
    }

    public int count(int what) {
        switch (what) {
            case 0: return now.state.rate;
            case 1: return now.sheet.stale;
            case 2: return now.sheet.lands;
            case 3: return ruleCount;
            case 4: return now.force;
            case 5: return now.state.week;
            case 6: return total(now.state.men);
            case 7: return total(now.state.sun);
            case 8: return total(now.state.hay);
            case 9: return total(now.state.barn);
            case 10: return now.state.bought;
            case 11: return now.noteCount;
            case 12: return now.past.size;
            case 13: return now.drawn;
            case 14: return reader.length;
            default: return NONE;
        }
    }

    public int image(int k) {
        if (!within(k, 0, MOST_IMAGES - 1)) {
            return NONE;
        }
        images[k].copyFrom(now);
        made[k] = true;
        return now.state.week;
    }

    public int back(int k) {
        if (!within(k, 0, MOST_IMAGES - 1) || !made[k]) {
            return NONE;
        }
        now.copyFrom(images[k]);
        return now.state.week;
    }

    private boolean isLand(int land) {
        return within(land, 0, now.sheet.lands - 1);
    }

    private boolean areTwo(int one, int other) {
        return isLand(one) && isLand(other) && one != other;
    }

    /** Whether there is a TABLE, and n WEEKS of it can be asked for. */
    private boolean isSpan(int n) {
        return now.sheet.there && within(n, 1, MOST_WEEKS);
    }

    private static boolean within(int n, int least, int most) {
        return n >= least && n <= most;
    }

    private static int total(int[] row) {
        int sum = 0;
        for (int i = 0; i < row.length; i++) {
            sum += row[i];
        }
        return sum;
    }

    private static void copyRow(int[] from, int[] to) {
        System.arraycopy(from, 0, to, 0, Math.min(from.length, to.length));
    }

    /** The RULE of a number, or null for none. */
    private static Rule ruleOf(Rule[] rules, int number) {
        return within(number, 0, rules.length - 1) ? rules[number] : null;
    }

    /** The TAPE, and the signs that it is split into to be read one by one. */
    private static final class Reader {
        private final int[] bytes = new int[MOST_BYTES];
        private int length;
        private final int[] signs = new int[MOST_BYTES + 1];
        private final int[] places = new int[MOST_BYTES + 1];
        private final int[] numbers = new int[MOST_BYTES + 1];
        private int size;
        private int at;
        private int fault;
        private int taken;

        void putNumber(int number) {
            for (int shift = 24; shift >= 0; shift -= 8) {
                if (length < MOST_BYTES) {
                    bytes[length] = (number >>> shift) & 255;
                    length++;
                }
            }
        }

        void split() {
            size = 0;
            at = 0;
            fault = 0;
            int place = 0;
            for (int k = 0; k < MOST_BYTES && place < length; k++) {
                int first = bytes[place];
                int behind = place + 1;
                if (isDigit(first)) {
                    behind = behindDigits(place);
                    addNumber(place, behind);
                } else if (isLetter(first)) {
                    behind = behindLetters(place);
                    add(wordOf(place, behind), place, 0);
                } else if (first != ' ') {
                    behind = addSign(place);
                }
                place = behind;
            }
            add(END, length, 0);
        }

        private static boolean isDigit(int b) {
            return b >= '0' && b <= '9';
        }

        private static boolean isLetter(int b) {
            return b >= 'a' && b <= 'z';
        }

        private int behindDigits(int place) {
            for (int i = place; i < length; i++) {
                if (!isDigit(bytes[i])) {
                    return i;
                }
            }
            return length;
        }

        private int behindLetters(int place) {
            for (int i = place; i < length; i++) {
                if (!isLetter(bytes[i])) {
                    return i;
                }
            }
            return length;
        }

        private void add(int sign, int place, int number) {
            if (size <= MOST_BYTES) {
                signs[size] = sign;
                places[size] = place;
                numbers[size] = number;
                size++;
            }
        }

        private void addNumber(int place, int behind) {
            if (behind - place > 5) {
                add(LONG_NUMBER, place, 0);
                return;
            }
            int number = 0;
            for (int i = place; i < behind; i++) {
                number = number * 10 + bytes[i] - '0';
            }
            add(NUMBER, place, number);
        }

        private int addSign(int place) {
            int found = SIGNS.indexOf((char) bytes[place]);
            int sign = found < 0 ? STRANGE : NEXT + found;
            boolean same = place + 1 < length && bytes[place + 1] == '=';
            if (same && sign == LESS) {
                add(LESS_OR_SAME, place, 0);
                return place + 2;
            }
            if (same && sign == MORE) {
                add(MORE_OR_SAME, place, 0);
                return place + 2;
            }
            add(sign, place, 0);
            return place + 1;
        }

        private int wordOf(int place, int behind) {
            int word = WORD;
            int begin = 0;
            for (int i = 0; i <= WORDS.length(); i++) {
                if (i == WORDS.length() || WORDS.charAt(i) == ' ') {
                    if (i - begin == behind - place && isWord(begin, i, place)) {
                        return word;
                    }
                    word++;
                    begin = i + 1;
                }
            }
            return STRANGE;
        }

        private boolean isWord(int begin, int behind, int place) {
            for (int i = begin; i < behind; i++) {
                if (WORDS.charAt(i) != bytes[place + i - begin]) {
                    return false;
                }
            }
            return true;
        }

        int sign() {
            return at < size ? signs[at] : END;
        }

        int number() {
            return at < size ? numbers[at] : 0;
        }

        void step() {
            if (at < size - 1) {
                at++;
            }
        }

        /** Goes on if this sign stands here. */
        boolean take(int sign) {
            if (sign() != sign) {
                return false;
            }
            step();
            return true;
        }

        /** Goes on if this sign stands here; otherwise that is a FAULT. */
        boolean demand(int sign) {
            return take(sign) || fail(FAULT_STRANGE);
        }

        /** Notes the FAULT of this place; false, so that a reader can end with it. */
        boolean fail(int kind) {
            if (fault == 0 && at < size) {
                fault = 1 + 8 * places[at] + kind;
            }
            return false;
        }

        boolean takeNumber(int least, int most) {
            int sign = sign();
            if (sign != NUMBER && sign != LONG_NUMBER) {
                return fail(FAULT_STRANGE);
            }
            if (sign == LONG_NUMBER || !within(number(), least, most)) {
                return fail(FAULT_NUMBER);
            }
            taken = number();
            step();
            return true;
        }
    }

    /** Reads the text of a TABLE. */
    private static final class TableText {
        private static final int MOST_CLAUSES = 40;
        private final Reader in;

        TableText(Reader in) {
            this.in = in;
        }

        /** The FAULT, or 0 if the sheet holds the TABLE. */
        int read(Sheet sheet) {
            sheet.clear();
            for (int clause = 0; clause <= MOST_CLAUSES; clause++) {
                if (!readClause(sheet, clause)) {
                    return in.fault;
                }
                if (in.sign() == END) {
                    sheet.there = true;
                    return 0;
                }
                if (!in.demand(NEXT)) {
                    return in.fault;
                }
            }
            return in.fault;
        }

        private boolean readClause(Sheet sheet, int clause) {
            int word = in.sign();
            if (word != WORD_TABLE && word != WORD_LAND && word != WORD_SUN) {
                return in.fail(FAULT_STRANGE);
            }
            boolean sixth = word == WORD_LAND && sheet.lands >= MOST_LANDS;
            if (clause >= MOST_CLAUSES || (word == WORD_TABLE) != (clause == 0) || sixth) {
                return in.fail(FAULT_CLAUSE);
            }
            in.step();
            if (word == WORD_TABLE) {
                return readRates(sheet);
            }
            return word == WORD_LAND ? readLand(sheet) : readSun(sheet);
        }

        private boolean readRates(Sheet sheet) {
            if (!in.takeNumber(1, MOST_RATE)) {
                return false;
            }
            sheet.rate = in.taken;
            if (!in.takeNumber(0, 9)) {
                return false;
            }
            sheet.stale = in.taken;
            return true;
        }

        private boolean readLand(Sheet sheet) {
            int land = sheet.lands;
            if (!in.takeNumber(0, 99)) {
                return false;
            }
            sheet.men[land] = in.taken;
            if (!in.takeNumber(0, 9)) {
                return false;
            }
            sheet.sun[land] = in.taken;
            if (!in.takeNumber(0, 99)) {
                return false;
            }
            sheet.hay[land] = in.taken;
            sheet.lands = land + 1;
            return true;
        }

        private boolean readSun(Sheet sheet) {
            if (!in.takeNumber(0, sheet.lands - 1)) {
                return false;
            }
            int land = in.taken;
            if (!in.takeNumber(0, LAST_TOLD)) {
                return false;
            }
            sheet.told[land][in.taken]++;
            return true;
        }
    }

    /** Reads the text of a RULE; what joins two values is put behind both of them. */
    private static final class RuleText {
        private static final int MOST_DEPTH = 10;
        private static final int MOST_PARTS = 60;
        private final Reader in;
        private int parts;

        RuleText(Reader in) {
            this.in = in;
        }

        /** The FAULT, or 0 if the RULE holds what was told. */
        int read(Rule rule) {
            rule.clear();
            parts = 0;
            for (int clause = 0; clause <= Rule.MOST_CLAUSES; clause++) {
                if (!takeBuy(clause)) {
                    return in.fault;
                }
                int sumAt = rule.size;
                if (!readSum(rule)) {
                    return in.fault;
                }
                int testAt = rule.size;
                if (in.take(WORD_IF) && !readTest(rule, 0)) {
                    return in.fault;
                }
                rule.addClause(sumAt, testAt);
                if (in.sign() == END) {
                    return 0;
                }
                if (!in.demand(NEXT)) {
                    return in.fault;
                }
            }
            return in.fault;
        }

        private boolean takeBuy(int clause) {
            if (in.sign() == WORD_BUY && clause >= Rule.MOST_CLAUSES) {
                return in.fail(FAULT_CLAUSE);
            }
            return in.demand(WORD_BUY);
        }

        /** "and" joins at once, "or" waits until the next one or the end. */
        private boolean readTest(Rule rule, int depth) {
            if (!readFact(rule, depth)) {
                return false;
            }
            boolean waiting = false;
            for (int k = 0; k < MOST_BYTES; k++) {
                int sign = in.sign();
                if (sign != WORD_AND && sign != WORD_OR) {
                    break;
                }
                in.step();
                if (sign == WORD_OR && waiting) {
                    rule.add(WORD_OR, 0);
                }
                if (!readFact(rule, depth)) {
                    return false;
                }
                if (sign == WORD_AND) {
                    rule.add(WORD_AND, 0);
                } else {
                    waiting = true;
                }
            }
            if (waiting) {
                rule.add(WORD_OR, 0);
            }
            return true;
        }

        private boolean readFact(Rule rule, int depth) {
            int sign = in.sign();
            if (sign != OPEN && sign != WORD_NOT) {
                return readComparison(rule);
            }
            if (depth >= MOST_DEPTH) {
                return in.fail(FAULT_DEEP);
            }
            in.step();
            if (sign == OPEN) {
                return readTest(rule, depth + 1) && in.demand(CLOSE);
            }
            if (!readFact(rule, depth + 1)) {
                return false;
            }
            rule.add(WORD_NOT, 0);
            return true;
        }

        private boolean readComparison(Rule rule) {
            if (!readSum(rule)) {
                return false;
            }
            int sign = in.sign();
            if (sign < LESS || sign > MORE_OR_SAME) {
                return in.fail(FAULT_STRANGE);
            }
            if (parts >= MOST_PARTS) {
                return in.fail(FAULT_PARTS);
            }
            parts++;
            in.step();
            if (!readSum(rule)) {
                return false;
            }
            rule.add(sign, 0);
            return true;
        }

        /** What joins VALUES joins at once, what joins TERMS waits until the next one or the end. */
        private boolean readSum(Rule rule) {
            if (!readValue(rule)) {
                return false;
            }
            int waiting = END;
            for (int k = 0; k < MOST_BYTES; k++) {
                int sign = in.sign();
                if (sign < PLUS || sign > REST) {
                    break;
                }
                in.step();
                boolean joinsTerms = sign == PLUS || sign == MINUS;
                if (joinsTerms && waiting != END) {
                    rule.add(waiting, 0);
                }
                if (!readValue(rule)) {
                    return false;
                }
                if (joinsTerms) {
                    waiting = sign;
                } else {
                    rule.add(sign, 0);
                }
            }
            if (waiting != END) {
                rule.add(waiting, 0);
            }
            return true;
        }

        private boolean readValue(Rule rule) {
            int sign = in.sign();
            if (sign == LONG_NUMBER) {
                return in.fail(FAULT_NUMBER);
            }
            boolean word = sign >= WORD && sign < WORD + VALUE_WORDS;
            if (sign != NUMBER && !word) {
                return in.fail(FAULT_STRANGE);
            }
            if (parts >= MOST_PARTS) {
                return in.fail(FAULT_PARTS);
            }
            parts++;
            rule.add(word ? WORD : NUMBER, word ? sign - WORD : in.number());
            in.step();
            return true;
        }
    }

    /** A RULE, as signs of which each takes its values from a stack and puts one there. */
    private static final class Rule {
        private static final int MOST_CLAUSES = 12;
        private static final int STACK = 64;
        private final int[] signs = new int[MOST_BYTES];
        private final int[] values = new int[MOST_BYTES];
        private int size;
        private final int[] sumAt = new int[MOST_CLAUSES];
        private final int[] testAt = new int[MOST_CLAUSES];
        private final int[] endAt = new int[MOST_CLAUSES];
        private int clauses;
        private final long[] stack = new long[STACK];

        void clear() {
            size = 0;
            clauses = 0;
        }

        void add(int sign, int value) {
            if (size < MOST_BYTES) {
                signs[size] = sign;
                values[size] = value;
                size++;
            }
        }

        void addClause(int sum, int test) {
            if (clauses < MOST_CLAUSES) {
                sumAt[clauses] = sum;
                testAt[clauses] = test;
                endAt[clauses] = size;
                clauses++;
            }
        }

        /** The SUM of the first CLAUSE that holds for these words, or 0. */
        long sumFor(long[] words) {
            for (int c = 0; c < clauses; c++) {
                if (testAt[c] == endAt[c] || valueOf(testAt[c], endAt[c], words) != 0) {
                    return valueOf(sumAt[c], testAt[c], words);
                }
            }
            return 0;
        }

        private long valueOf(int begin, int behind, long[] words) {
            int top = 0;
            for (int i = begin; i < behind; i++) {
                int sign = signs[i];
                if (sign == NUMBER && top < STACK) {
                    stack[top] = values[i];
                    top++;
                } else if (sign == WORD && top < STACK && values[i] < words.length) {
                    stack[top] = words[values[i]];
                    top++;
                } else if (sign == WORD_NOT && top > 0) {
                    stack[top - 1] = 1 - stack[top - 1];
                } else if (top > 1) {
                    top--;
                    stack[top - 1] = joined(sign, stack[top - 1], stack[top]);
                }
            }
            return top > 0 ? stack[top - 1] : 0;
        }

        private static long joined(int sign, long a, long b) {
            switch (sign) {
                case PLUS: return a + b;
                case MINUS: return a - b;
                case TIMES: return a * b;
                case OVER: return b == 0 ? 0 : a / b;
                case REST: return b == 0 ? 0 : a % b;
                case LESS: return a < b ? 1 : 0;
                case LESS_OR_SAME: return a <= b ? 1 : 0;
                case SAME: return a == b ? 1 : 0;
                case MORE_OR_SAME: return a >= b ? 1 : 0;
                case MORE: return a > b ? 1 : 0;
                case WORD_AND: return a & b;
                case WORD_OR: return a | b;
                default: return 0;
            }
        }
    }

    /** The TABLE as its text told it. */
    private static final class Sheet {
        private static final int NEVER = 99;
        private boolean there;
        private int rate;
        private int stale;
        private int lands;
        private final int[] men = new int[MOST_LANDS];
        private final int[] sun = new int[MOST_LANDS];
        private final int[] hay = new int[MOST_LANDS];
        private final int[][] told = new int[MOST_LANDS][LAST_TOLD + 1];
        private final int[][] soon = new int[MOST_LANDS][LAST_TOLD + 1];

        void clear() {
            there = false;
            rate = 0;
            stale = 0;
            lands = 0;
            for (int land = 0; land < MOST_LANDS; land++) {
                men[land] = 0;
                sun[land] = 0;
                hay[land] = 0;
                for (int week = 0; week <= LAST_TOLD; week++) {
                    told[land][week] = 0;
                }
            }
        }

        void copyFrom(Sheet other) {
            there = other.there;
            rate = other.rate;
            stale = other.stale;
            lands = other.lands;
            copyRow(other.men, men);
            copyRow(other.sun, sun);
            copyRow(other.hay, hay);
            for (int land = 0; land < MOST_LANDS; land++) {
                copyRow(other.told[land], told[land]);
                copyRow(other.soon[land], soon[land]);
            }
        }

        /** RULES ask for this often, so it is found once for all WEEKS. */
        void findSoon() {
            for (int land = 0; land < MOST_LANDS; land++) {
                int next = NEVER;
                for (int week = LAST_TOLD; week >= 0; week--) {
                    soon[land][week] = next;
                    if (told[land][week] > 0) {
                        next = 1;
                    } else if (next != NEVER) {
                        next++;
                    }
                }
            }
        }

        int soonOf(int land, int week) {
            return within(week, 0, LAST_TOLD) ? soon[land][week] : NEVER;
        }

        int toldFor(int land, int week) {
            return within(week, 0, LAST_TOLD) ? told[land][week] : 0;
        }
    }

    /** How the LANDS are at the begin of a WEEK. */
    private static final class State {
        private final int[] men = new int[MOST_LANDS];
        private final int[] sun = new int[MOST_LANDS];
        private final int[] hay = new int[MOST_LANDS];
        private final int[] barn = new int[MOST_LANDS];
        private final int[] from = new int[MOST_LANDS];
        private int rate;
        private int week;
        private int bought;

        void begin(Sheet sheet) {
            copyRow(sheet.men, men);
            copyRow(sheet.sun, sun);
            copyRow(sheet.hay, hay);
            for (int land = 0; land < MOST_LANDS; land++) {
                barn[land] = 0;
                from[land] = NONE;
            }
            rate = sheet.rate;
            week = 0;
            bought = 0;
        }

        void copyFrom(State other) {
            copyRow(other.men, men);
            copyRow(other.sun, sun);
            copyRow(other.hay, hay);
            copyRow(other.barn, barn);
            copyRow(other.from, from);
            rate = other.rate;
            week = other.week;
            bought = other.bought;
        }

        boolean mayBuy(int land, int other) {
            return land != other && men[land] >= rate && sun[other] > 0;
        }

        int sellers(int land) {
            int bits = 0;
            for (int other = 0; other < MOST_LANDS; other++) {
                if (mayBuy(land, other)) {
                    bits |= 1 << other;
                }
            }
            return bits;
        }

        void buy(int land, int other) {
            moveMen(land, other, rate);
            sun[other]--;
            addSun(land, 1);
            bought++;
        }

        void moveMen(int land, int other, int number) {
            men[land] -= number;
            addMen(other, number);
        }

        void addMen(int land, int more) {
            men[land] = Math.min(MOST_MEN, men[land] + more);
        }

        void addSun(int land, int more) {
            sun[land] = Math.min(MOST_SUN, sun[land] + more);
        }

        /** Reaps where there is sun, rains where there is none. */
        void harvest(int land) {
            if (hay[land] < 1) {
                return;
            }
            if (sun[land] < 1) {
                hay[land]--;
                return;
            }
            sun[land]--;
            int reaped = Math.min(men[land], hay[land]);
            hay[land] -= reaped;
            barn[land] = Math.min(MOST_BARN, barn[land] + reaped);
        }

        int partOf(int barley, int land) {
            int all = total(barn);
            if (all < 1) {
                return 0;
            }
            int left = barley;
            int ahead = 0;
            int lost = barley * barn[land] % all;
            for (int other = 0; other < MOST_LANDS; other++) {
                left -= barley * barn[other] / all;
                int theirs = barley * barn[other] % all;
                if (theirs > lost || theirs == lost && other < land) {
                    ahead++;
                }
            }
            return barley * barn[land] / all + (ahead < left ? 1 : 0);
        }
    }

    /** The last ACTS, each as it was ahead of it. */
    private static final class Past {
        private final State[] states = new State[MOST_ACTS];
        private int size;

        Past() {
            for (int i = 0; i < MOST_ACTS; i++) {
                states[i] = new State();
            }
        }

        void keep(State state) {
            if (size >= MOST_ACTS) {
                forgetFirst();
            }
            states[size].copyFrom(state);
            size++;
        }

        /** The first one's rows serve again as the last one's. */
        private void forgetFirst() {
            State first = states[0];
            for (int i = 1; i < MOST_ACTS; i++) {
                states[i - 1] = states[i];
            }
            states[MOST_ACTS - 1] = first;
            size = MOST_ACTS - 1;
        }

        boolean takeBack(State state) {
            if (size < 1) {
                return false;
            }
            size--;
            state.copyFrom(states[size]);
            return true;
        }

        void copyFrom(Past other) {
            size = other.size;
            for (int i = 0; i < size; i++) {
                states[i].copyFrom(other.states[i]);
            }
        }
    }

    /** All that an IMAGE holds. */
    private static final class World {
        private final Sheet sheet = new Sheet();
        private final State state = new State();
        private final Past past = new Past();
        private final int[] noteWeeks = new int[MOST_NOTES];
        private final int[] noteLands = new int[MOST_NOTES];
        private final int[] noteOthers = new int[MOST_NOTES];
        private int noteCount;
        private int force = NONE;
        private int drawn;

        void begin(Sheet told) {
            sheet.copyFrom(told);
            state.begin(told);
            past.size = 0;
            noteCount = 0;
        }

        void copyFrom(World other) {
            sheet.copyFrom(other.sheet);
            state.copyFrom(other.state);
            past.copyFrom(other.past);
            copyRow(other.noteWeeks, noteWeeks);
            copyRow(other.noteLands, noteLands);
            copyRow(other.noteOthers, noteOthers);
            noteCount = other.noteCount;
            force = other.force;
            drawn = other.drawn;
        }

        boolean addNote(int week, int land, int other) {
            if (noteCount >= MOST_NOTES) {
                return false;
            }
            noteWeeks[noteCount] = week;
            noteLands[noteCount] = land;
            noteOthers[noteCount] = other;
            noteCount++;
            return true;
        }

        int lastNote() {
            int last = NONE;
            for (int i = 0; i < noteCount; i++) {
                last = Math.max(last, noteWeeks[i]);
            }
            return last;
        }

        /** Whether the NOTES of a WEEK are so, by whom each LAND bought from in it. */
        boolean notesHold(int week, int[] from) {
            for (int i = 0; i < noteCount; i++) {
                if (noteWeeks[i] == week && from[noteLands[i]] != noteOthers[i]) {
                    return false;
                }
            }
            return true;
        }
    }

    /** Lets WEEKS pass, by a RULE or by what a question puts in its place. */
    private static final class Weeks {
        private Sheet sheet;
        private Rule rule;
        /** Bits of LANDS from which nobody buys. */
        private int shunned;
        /** Bits of LANDS that do not buy. */
        private int idle;
        /** A LAND that buys from the chosen one and not by the RULE; missed: it could not. */
        private int chooser;
        private int choice;
        private boolean missed;
        /** Bits of LANDS from which anybody bought. */
        private int sellers;
        private final long[] words = new long[VALUE_WORDS];

        /** A RULE of null is none. */
        void follow(Sheet told, Rule followed) {
            sheet = told;
            rule = followed;
            shunned = 0;
            idle = 0;
            chooser = NONE;
            choice = NONE;
            missed = false;
            sellers = 0;
        }

        /** Enough for who asks for BARNS alone: without HAY these stay as they are. */
        void passTillBare(State state, int n) {
            for (int i = 0; i < n && total(state.hay) > 0; i++) {
                pass(state);
            }
        }

        /** One WEEK: how many BUY in it. */
        int pass(State state) {
            if (sheet == null) {
                return 0;
            }
            int lands = Math.min(sheet.lands, MOST_LANDS);
            for (int land = 0; land < lands; land++) {
                state.addSun(land, sheet.toldFor(land, state.week));
            }
            int buyers = 0;
            for (int land = 0; land < lands; land++) {
                int other = pick(state, land, lands);
                state.from[land] = other;
                if (other != NONE) {
                    state.buy(land, other);
                    sellers |= 1 << other;
                    buyers++;
                }
            }
            for (int land = 0; land < lands; land++) {
                state.harvest(land);
                state.sun[land] = Math.min(state.sun[land], sheet.stale);
            }
            state.week++;
            return buyers;
        }

        /** From whom a LAND buys now, or NONE. */
        private int pick(State state, int land, int lands) {
            if (land == chooser) {
                return pickChosen(state, lands);
            }
            boolean unwilling = rule == null && (state.hay[land] < 1 || state.sun[land] > 0);
            if (has(idle, land) || unwilling || state.men[land] < state.rate) {
                return NONE;
            }
            tellLand(state, land);
            long most = 0;
            int found = NONE;
            for (int other = 0; other < lands; other++) {
                if (has(shunned, other) || !state.mayBuy(land, other)) {
                    continue;
                }
                tellOther(state, other);
                long liking = rule == null ? state.sun[other] : rule.sumFor(words);
                if (liking > most) {
                    most = liking;
                    found = other;
                }
            }
            return found;
        }

        private int pickChosen(State state, int lands) {
            if (!within(choice, 0, lands - 1)) {
                return NONE;
            }
            missed = !state.mayBuy(chooser, choice);
            return missed ? NONE : choice;
        }

        private void tellLand(State state, int land) {
            words[WORD_LAND - WORD] = land;
            words[WORD_MEN - WORD] = state.men[land];
            words[WORD_SUN - WORD] = state.sun[land];
            words[WORD_HAY - WORD] = state.hay[land];
            words[WORD_BARN - WORD] = state.barn[land];
            words[WORD_RATE - WORD] = state.rate;
            words[WORD_SOON - WORD] = sheet == null ? 0 : sheet.soonOf(land, state.week);
            words[WORD_WEEK - WORD] = state.week;
        }

        private void tellOther(State state, int other) {
            words[WORD_OTHER - WORD] = other;
            words[WORD_THEIR_MEN - WORD] = state.men[other];
            words[WORD_THEIR_SUN - WORD] = state.sun[other];
            words[WORD_THEIR_HAY - WORD] = state.hay[other];
        }

        private static boolean has(int bits, int land) {
            return (bits >> land & 1) != 0;
        }
    }

    /** What is asked: all on rows of its own, so that by it nothing changes. */
    private static final class Questions {
        private final World world;
        private final Rule[] rules;
        private final Weeks weeks = new Weeks();
        private final State trial = new State();
        private final State[] levels = new State[MOST_TURNS + 1];
        private final int[] tried = new int[MOST_TURNS];
        private final int[] chosen = new int[MOST_TURNS];
        private final boolean[] fits = new boolean[MOST_RULES + 1];
        private final int[][] froms = new int[MOST_RULES + 1][MOST_LANDS];
        private final int[] sellers = new int[1 << MOST_LANDS];
        /** What the last question found: who or which, and how much. */
        private int which;
        private int amount;

        Questions(World world, Rule[] rules) {
            this.world = world;
            this.rules = rules;
            for (int i = 0; i <= MOST_TURNS; i++) {
                levels[i] = new State();
            }
        }

        private void startOn(State state) {
            state.copyFrom(world.state);
            weeks.follow(world.sheet, ruleOf(rules, world.force));
        }

        State after(int n) {
            startOn(trial);
            for (int i = 0; i < n; i++) {
                weeks.pass(trial);
            }
            return trial;
        }

        int firstBare(int land) {
            startOn(trial);
            for (int i = 0; i < MOST_BARE; i++) {
                if (trial.hay[land] == 0) {
                    return trial.week;
                }
                weeks.pass(trial);
            }
            return -2;
        }

        void findRow(int land, int n) {
            startOn(levels[0]);
            weeks.chooser = land;
            amount = NONE;
            tryRows(0, n, land);
        }

        /** Rows are tried in their order, so a later one must be better to be taken. */
        private void tryRows(int week, int n, int land) {
            if (week >= n || week >= MOST_TURNS) {
                if (levels[week].barn[land] > amount) {
                    amount = levels[week].barn[land];
                    copyRow(tried, chosen);
                }
                return;
            }
            State next = levels[week + 1];
            for (int other = NONE; other < world.sheet.lands; other++) {
                if (other == land) {
                    continue;
                }
                next.copyFrom(levels[week]);
                weeks.choice = other;
                weeks.missed = false;
                weeks.pass(next);
                if (!weeks.missed) {
                    tried[week] = other;
                    tryRows(week + 1, n, land);
                }
            }
        }

        void findRate(int n) {
            amount = NONE;
            for (int rate = 1; rate <= MOST_RATE; rate++) {
                startOn(trial);
                trial.rate = rate;
                weeks.passTillBare(trial, n);
                keepIfFuller(rate);
            }
        }

        private void keepIfFuller(int candidate) {
            int barns = total(trial.barn);
            if (barns > amount) {
                amount = barns;
                which = candidate;
            }
        }

        int firstQuiet() {
            startOn(trial);
            int still = 0;
            for (int i = 0; i < MOST_WEEKS + 4; i++) {
                still = weeks.pass(trial) == 0 ? still + 1 : 0;
                if (still == 5) {
                    return trial.week - 5;
                }
            }
            return -2;
        }

        int worthOf(int land, int men, int n) {
            startOn(trial);
            weeks.passTillBare(trial, n);
            int without = trial.barn[land];
            startOn(trial);
            trial.addMen(land, men);
            weeks.passTillBare(trial, n);
            return trial.barn[land] - without;
        }

        int leastSun(int land, int barn, int n) {
            for (int more = 0; more <= MOST_NEED; more++) {
                startOn(trial);
                trial.addSun(land, more);
                weeks.passTillBare(trial, n);
                if (trial.barn[land] >= barn) {
                    return more;
                }
            }
            return -2;
        }

        void play(int one, int other, int n) {
            startOn(levels[0]);
            weeks.idle = 1 << one | 1 << other;
            amount = playOn(0, n, one, other);
        }

        private int playOn(int turn, int n, int one, int other) {
            State state = levels[turn];
            if (turn >= n || turn >= MOST_TURNS) {
                return state.barn[one] - state.barn[other];
            }
            boolean first = turn % 2 == 0;
            int buyer = first ? one : other;
            int seller = first ? other : one;
            State next = levels[turn + 1];
            next.copyFrom(state);
            weeks.pass(next);
            int result = playOn(turn + 1, n, one, other);
            int buys = 0;
            if (state.mayBuy(buyer, seller)) {
                next.copyFrom(state);
                next.buy(buyer, seller);
                weeks.pass(next);
                int bought = playOn(turn + 1, n, one, other);
                if (first ? bought > result : bought < result) {
                    result = bought;
                    buys = 1;
                }
            }
            if (turn == 0) {
                which = buys;
            }
            return result;
        }

        void findShunned(int n) {
            amount = NONE;
            which = 0;
            for (int set = 0; set < 1 << world.sheet.lands; set++) {
                int same = sameWithFewer(set);
                if (same != NONE) {
                    sellers[set] = sellers[same];
                    continue;
                }
                startOn(trial);
                weeks.shunned = set;
                weeks.passTillBare(trial, n);
                sellers[set] = weeks.sellers;
                int barns = total(trial.barn);
                boolean fewer = Integer.bitCount(set) < Integer.bitCount(which);
                if (barns > amount || barns == amount && fewer) {
                    amount = barns;
                    which = set;
                }
            }
        }

        /** All goes the same if one more is shunned from whom nobody buys anyway: a set without it. */
        private int sameWithFewer(int set) {
            for (int land = 0; land < MOST_LANDS; land++) {
                int without = set & ~(1 << land);
                if (without != set && (sellers[without] >> land & 1) == 0) {
                    return without;
                }
            }
            return NONE;
        }

        void findMothered(int n) {
            amount = NONE;
            for (int land = NONE; land < world.sheet.lands; land++) {
                startOn(trial);
                if (land != NONE) {
                    trial.addSun(land, 1);
                }
                weeks.passTillBare(trial, n);
                keepIfFuller(land);
            }
        }

        /** Which RULES are so (none stands first), and by them from whom LANDS buy in a WEEK. */
        void findRules(int ruleCount, int week) {
            amount = 0;
            which = -2;
            for (int rule = NONE; rule < MOST_RULES; rule++) {
                fits[rule + 1] = rule < ruleCount && isSo(rule, week);
                if (fits[rule + 1]) {
                    amount++;
                    if (which == -2) {
                        which = rule;
                    }
                }
            }
        }

        private boolean isSo(int rule, int week) {
            trial.begin(world.sheet);
            weeks.follow(world.sheet, ruleOf(rules, rule));
            int last = Math.max(week, world.lastNote());
            for (int i = 0; i <= last; i++) {
                weeks.pass(trial);
                if (!world.notesHold(i, trial.from)) {
                    return false;
                }
                if (i == week) {
                    copyRow(trial.from, froms[rule + 1]);
                }
            }
            return true;
        }

        /** By which LAND the RULES that were found part best. */
        void findLook() {
            amount = MOST_RULES + 2;
            for (int land = 0; land < world.sheet.lands; land++) {
                int alike = mostAlike(land);
                if (alike < amount) {
                    amount = alike;
                    which = land;
                }
            }
        }

        private int mostAlike(int land) {
            int most = 0;
            for (int a = 0; a < fits.length; a++) {
                int alike = 0;
                for (int b = 0; b < fits.length; b++) {
                    if (fits[a] && fits[b] && froms[a][land] == froms[b][land]) {
                        alike++;
                    }
                }
                most = Math.max(most, alike);
            }
            return most;
        }

        void drawSummers(int m, int n, int p) {
            int drawn = world.drawn;
            amount = 0;
            which = 0;
            for (int summer = 0; summer < m; summer++) {
                startOn(trial);
                for (int i = 0; i < n; i++) {
                    drawn = nextDrawn(drawn);
                    if ((drawn >> 16) % 100 < p && world.sheet.lands > 0) {
                        drawn = nextDrawn(drawn);
                        trial.addSun((drawn >> 16) % world.sheet.lands, 1);
                    }
                    which += weeks.pass(trial);
                }
                amount += total(trial.barn);
            }
        }

        private static int nextDrawn(int drawn) {
            return (int) ((drawn * 1103515245L + 12345L) & 2147483647L);
        }
    }
}
