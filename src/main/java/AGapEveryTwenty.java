import java.util.Arrays;

/**
 * A row of sixteen places on which stones are put up one by one, gaps left out till the end.
 * The document that says what each call answers is ../shared/DOC.md.
 */
public final class AGapEveryTwenty {
    public static final int NONE = -1, BAD = -2, STATE = -3, FULL = -4;
    public static final long NO = -4611686018427387904L;

    private static final int NO_PLACE = -5, NOT_SO = -7;
    private static final int MISSING = -11, OUTSIDE = -12, UNLIKE = -13, BELOW_ZERO = -14;
    private static final int FIRST_FAULT = -100;
    private static final int PLACES = 16, ALL_PLACES = 65535, BESIDES = 17;
    private static final int SIDES = 3, WAYS = 3, REACHES = 3;
    private static final int KINDS = 6, RULED = 4, MOST_MORE = 9;
    private static final int PARTS = 3, FALLS = 0, TAKES = 1, CLOSES = 2;
    private static final int MOST_TEXTS = 6, TAPE_ROOM = 160, MOST_OPEN = 5;
    private static final int SHEETS = 4, SHEET_ROOM = 40, SORTS = 3, BYTES = 0, SHORTS = 1;
    private static final int MOST_TRIPLES = 13, STONE = 6;
    private static final int LAST_SEED = 99999, MOST_LOTS = 400, MOST_SEEDS = 20;
    private static final int MOST_PICKED = 4;
    private static final long MOST_MEAN = 1000000000000L, CERTAIN = 1000000000L;

    /** Of each kind the kind that it is, too; -1: there is none above. */
    private static final int[] KIND_ABOVE = {-1, 0, 0, 1, 2, 0};

    private final Texts texts;
    private final Reader reader;
    private final Row row;
    private final Plans plans;
    private final Picks picks;
    private final Lots lots;
    private final State kept;
    private final Sheet[] sheets;
    private boolean hasImage;

    public AGapEveryTwenty() {
        texts = new Texts();
        reader = new Reader();
        row = new Row(texts);
        plans = new Plans(row);
        picks = new Picks(plans);
        lots = new Lots(row);
        kept = new State();
        sheets = new Sheet[SHEETS];
        for (int s = 0; s < SHEETS; s++) {
            sheets[s] = new Sheet();
        }
        hasImage = false;
    }

    // ---- the row, the law

    public int count(int what) {
        switch (what) {
            case 0: return row.now.gaps;
            case 1: return row.now.stands;
            case 2: return row.now.end;
            case 3: return row.now.reach;
            case 4: return texts.many;
            case 5: return row.now.law;
            case 6: return reader.size;
            default: return BAD;
        }
    }

    public int set(int what, int v) {
        if (outside(what, 4)) {
            return NO_PLACE;
        }
        if (outside(v, what < 2 ? ALL_PLACES + 1 : 3)) {
            return NOT_SO;
        }
        int was = count(what);
        switch (what) {
            case 0: row.now.gaps = v; break;
            case 1: row.now.stands = v; break;
            case 2: row.now.end = v; break;
            default: row.now.reach = v; break;
        }
        row.forget();
        return was;
    }

    public int feed(int n, int a, int b, int c, int d, int e) {
        if (n < 1 || n > 5 || noByte(a) || noByte(b) || noByte(c) || noByte(d) || noByte(e)) {
            return BAD;
        }
        if (reader.size + n > TAPE_ROOM) {
            return FULL;
        }
        reader.append(a);
        if (n > 1) {
            reader.append(b);
        }
        if (n > 2) {
            reader.append(c);
        }
        if (n > 3) {
            reader.append(d);
        }
        if (n > 4) {
            reader.append(e);
        }
        return reader.size;
    }

    public int text() {
        if (texts.many >= MOST_TEXTS) {
            return FULL;
        }
        int fault = reader.readText();
        reader.size = 0;
        return fault >= 0 ? FIRST_FAULT - fault : texts.add(reader.code, reader.begins);
    }

    public int force(int t) {
        if (outside(t, texts.many)) {
            return BAD;
        }
        int was = row.now.law;
        row.obey(t);
        return was;
    }

    public int asks(int part, int p, int beside) {
        if (outside(part, PARTS) || outside(p, PLACES) || outside(beside, BESIDES)) {
            return BAD;
        }
        return row.says(part, p, beside);
    }

    public int lay(int p, int kind, int more) {
        if (outside(p, PLACES)) {
            return NO_PLACE;
        }
        if (outside(kind, KINDS) || outside(more, MOST_MORE + 1)) {
            return NOT_SO;
        }
        int was = 10 * row.now.kind[p] + row.now.more[p];
        row.become(p, kind, more);
        return was;
    }

    public int told(int p, int what) {
        if (outside(p, PLACES)) {
            return NO_PLACE;
        }
        switch (what) {
            case 0: return row.now.kind[p];
            case 1: return row.now.more[p];
            case 2: return row.falls(p, 0);
            case 3: return row.takes(p);
            case 4: return row.stops(p) ? 1 : 0;
            case 5: return row.closes(p, 0);
            default: return NOT_SO;
        }
    }

    // ---- plans

    public int stretch(int set, int what) {
        if (outside(set, ALL_PLACES + 1)) {
            return BAD;
        }
        plans.measure(set);
        switch (what) {
            case 0: return plans.longest;
            case 1: return plans.longestAt;
            case 2: return plans.stretches;
            default: return BAD;
        }
    }

    public long mean(int set, int way) {
        if (outside(set, ALL_PLACES + 1) || outside(way, WAYS)) {
            return NO;
        }
        plans.from(way);
        return plans.meanBy(set);
    }

    public long plan() {
        plans.from(row.now.end);
        return plans.meanBy(row.now.gaps);
    }

    public long best(int many, int what) {
        if (outside(many, MOST_PICKED + 1) || outside(what, 2)) {
            return NO;
        }
        plans.from(row.now.end);
        picks.begin();
        picks.trySizes(many);
        return picks.answer(what);
    }

    public long every(int what) {
        if (outside(what, 2)) {
            return NO;
        }
        plans.from(row.now.end);
        picks.begin();
        for (int k = 2; k <= PLACES; k++) {
            picks.consider(k, plans.meanBy(gapsEvery(k)));
        }
        return picks.answer(what);
    }

    public long which(int what) {
        if (outside(what, 2)) {
            return NO;
        }
        picks.begin();
        for (int way = 0; way < WAYS; way++) {
            plans.from(way);
            picks.consider(way, plans.meanBy(row.now.gaps));
        }
        return picks.answer(what);
    }

    public long stop(int what) {
        if (outside(what, 2)) {
            return NO;
        }
        long told = plan();
        picks.begin();
        for (int p = 0; p < PLACES; p++) {
            int kind = row.now.kind[p];
            row.become(p, RULED, row.now.more[p]);
            picks.consider(p, plan());
            row.become(p, kind, row.now.more[p]);
        }
        if (picks.least >= told) {
            return what == 0 ? -1 : 0;
        }
        return what == 0 ? picks.chosen : told - picks.least;
    }

    public long dear(int what) {
        if (outside(what, 2)) {
            return NO;
        }
        int gaps = row.now.gaps;
        if (gaps == 0) {
            return -1;
        }
        plans.from(row.now.end);
        picks.begin();
        for (int p = 0; p < PLACES; p++) {
            if (has(gaps, p)) {
                picks.consider(p, plans.meanBy(gaps & ~(1 << p)));
            }
        }
        return picks.answer(what);
    }

    public long likely(int set, int way) {
        if (outside(set, ALL_PLACES + 1) || outside(way, WAYS)) {
            return NO;
        }
        plans.from(way);
        return plans.atOnce(set);
    }

    // ---- what stands

    public int push(int p, int side) {
        if (outside(p, PLACES)) {
            return NO_PLACE;
        }
        if (outside(side, SIDES)) {
            return NOT_SO;
        }
        return row.pushed(p, side, row.now.reach);
    }

    public int far(int what) {
        if (outside(what, 2)) {
            return BAD;
        }
        int place = -1;
        int most = -1;
        for (int p = 0; p < PLACES; p++) {
            int many = Integer.bitCount(row.pushed(p, 1, row.now.reach));
            if (has(row.now.stands, p) && many > most) {
                place = p;
                most = many;
            }
        }
        return what == 0 ? place : most;
    }

    public int tip(int p, int side) {
        int fallen = push(p, side);
        if (fallen < 0) {
            return fallen;
        }
        row.now.stands &= ~fallen;
        return Integer.bitCount(fallen);
    }

    public int put(int p, int seed) {
        if (outside(p, PLACES)) {
            return NO_PLACE;
        }
        if (outside(seed, LAST_SEED + 1)) {
            return NOT_SO;
        }
        if (has(row.now.stands, p)) {
            return STATE;
        }
        lots.begin(seed);
        int fallen = lots.putUp(p);
        row.now.stands = lots.stands;
        return fallen;
    }

    // ---- rows by lots

    public int drawn(int seed, int n, int what) {
        if (outside(seed, LAST_SEED + 1) || outside(n, MOST_LOTS + 1) || outside(what, 3)) {
            return BAD;
        }
        plans.from(row.now.end);
        plans.arrange(row.now.gaps);
        lots.drawRow(seed, n, plans.order);
        switch (what) {
            case 0: return lots.had;
            case 1: return lots.stands;
            default: return lots.fell;
        }
    }

    public long odds(int seed, int seeds, int n, int part) {
        if (outside(seed, LAST_SEED + 1) || seeds < 1 || seeds > MOST_SEEDS
                || outside(n, MOST_LOTS + 1) || outside(part, 2)) {
            return NO;
        }
        plans.from(row.now.end);
        plans.arrange(row.now.gaps);
        int full = 0;
        for (int i = 0; i < seeds; i++) {
            lots.drawRow(seed + i, n, plans.order);
            if (lots.stands == ALL_PLACES) {
                full++;
            }
        }
        int common = commonDivisor(full, seeds);
        return (part == 0 ? full : seeds) / common;
    }

    // ---- told heaps

    public int judge(int s, int p, int side) {
        int refused = refusedAsTold(s);
        if (refused != 0) {
            return refused;
        }
        if (outside(p, PLACES)) {
            return NO_PLACE;
        }
        if (outside(side, SIDES)) {
            return NOT_SO;
        }
        return sheets[s].firstUnlike(row.pushed(p, side, row.now.reach));
    }

    public int origin(int s, int side) {
        int refused = refusedAsTold(s);
        if (refused != 0) {
            return refused;
        }
        if (outside(side, SIDES)) {
            return NOT_SO;
        }
        int bits = 0;
        for (int p = 0; p < PLACES; p++) {
            if (has(row.now.stands, p)
                    && sheets[s].firstUnlike(row.pushed(p, side, row.now.reach)) < 0) {
                bits |= 1 << p;
            }
        }
        return bits;
    }

    public int how(int s, int p, int sortSide) {
        int refused = refusedAsTold(s);
        if (refused != 0) {
            return refused;
        }
        if (outside(p, PLACES)) {
            return NO_PLACE;
        }
        if (sortSide < 0 || sortSide / 10 > 1 || sortSide % 10 >= SIDES) {
            return NOT_SO;
        }
        int bits = 0;
        for (int i = 0; i < REACHES; i++) {
            int fallen = sortSide < 10
                    ? row.pushed(p, i, row.now.reach)
                    : row.pushed(p, sortSide % 10, i);
            if (sheets[s].firstUnlike(fallen) < 0) {
                bits |= 1 << i;
            }
        }
        return bits;
    }

    // ---- told chances

    public int check(int s) {
        int refused = refusedAsTold(s);
        return refused != 0 ? refused : firstOtherChance(s);
    }

    public int kinds(int s, int p, int sort) {
        int refused = refusedAsTold(s);
        if (refused != 0) {
            return refused;
        }
        if (outside(p, PLACES)) {
            return NO_PLACE;
        }
        if (outside(sort, 2)) {
            return NOT_SO;
        }
        int kind = row.now.kind[p];
        int more = row.now.more[p];
        int bits = 0;
        for (int i = 0; i < (sort == 0 ? KINDS : MOST_MORE + 1); i++) {
            row.become(p, sort == 0 ? i : kind, sort == 0 ? more : i);
            if (sheets[s].cells[p] == row.falls(p, 0)) {
                bits |= 1 << i;
            }
        }
        row.become(p, kind, more);
        return bits;
    }

    public int laws(int s) {
        int refused = refusedAsTold(s);
        if (refused != 0) {
            return refused;
        }
        int law = row.now.law;
        int bits = 0;
        for (int t = 0; t < texts.many; t++) {
            row.obey(t);
            if (firstOtherChance(s) < 0) {
                bits |= 1 << t;
            }
        }
        row.obey(law);
        return bits;
    }

    public long amiss(int s) {
        if (refusedAsTold(s) != 0) {
            return NO;
        }
        long sum = 0;
        for (int p = 0; p < PLACES; p++) {
            sum += Math.abs((long) sheets[s].cells[p] - row.falls(p, 0));
        }
        return sum;
    }

    public int film(int s, int p, int side) {
        if (outside(s, SHEETS)) {
            return BAD;
        }
        if (outside(p, PLACES + 1)) {
            return NO_PLACE;
        }
        if (outside(side, SIDES)) {
            return NOT_SO;
        }
        int fallen = p < PLACES ? row.pushed(p, side, row.now.reach) : 0;
        sheets[s].renew(BYTES, PLACES);
        for (int i = 0; i < PLACES; i++) {
            sheets[s].write(i, p == PLACES ? row.falls(i, 0) : fallen >> i & 1);
        }
        return PLACES;
    }

    public int image() {
        kept.become(row.now);
        hasImage = true;
        return Integer.bitCount(row.now.stands);
    }

    public int back() {
        if (!hasImage) {
            return STATE;
        }
        row.now.become(kept);
        row.forget();
        return Integer.bitCount(row.now.stands);
    }

    // ---- the host

    public int sheet(int s, int sort, int n) {
        if (outside(s, SHEETS) || sort < -1 || sort >= SORTS) {
            return BAD;
        }
        if (sort == -1) {
            sheets[s].renew(-1, 0);
            return 1;
        }
        if (n > SHEET_ROOM) {
            return BAD;
        }
        if (n < 0) {
            return BELOW_ZERO;
        }
        sheets[s].renew(sort, n);
        return 1;
    }

    public int cell(int s, int i, int v) {
        if (outside(s, SHEETS)) {
            return BAD;
        }
        if (sheets[s].isMissing()) {
            return MISSING;
        }
        if (outside(i, sheets[s].size)) {
            return OUTSIDE;
        }
        sheets[s].write(i, v);
        return 1;
    }

    public int copy(int s, int i, int other, int j, int n) {
        if (outside(s, SHEETS) || outside(other, SHEETS)) {
            return BAD;
        }
        Sheet from = sheets[s];
        Sheet to = sheets[other];
        if (from.isMissing() || to.isMissing()) {
            return MISSING;
        }
        if (from.sort != to.sort) {
            return UNLIKE;
        }
        if (!from.holds(i, n) || !to.holds(j, n)) {
            return OUTSIDE;
        }
        System.arraycopy(from.cells, i, to.cells, j, n);
        return n;
    }

    public int layBy(int s, int sort, int at, int n) {
        if (outside(s, SHEETS) || outside(sort, SORTS) || outside(n, MOST_TRIPLES + 1)) {
            return BAD;
        }
        Sheet by = sheets[s];
        if (by.isMissing()) {
            return MISSING;
        }
        if (by.sort != sort) {
            return UNLIKE;
        }
        int laid = 0;
        for (int i = 0; i < n; i++) {
            int first = at + 3 * i;
            if (!by.holds(first, 3)) {
                return OUTSIDE;
            }
            if (lay(by.cells[first], by.cells[first + 1], by.cells[first + 2]) >= 0) {
                laid++;
            }
        }
        return laid;
    }

    public long taken(int i, int kind) {
        if (outside(kind, STONE + 1)) {
            return BAD;
        }
        if (outside(i, 2 * PLACES)) {
            return OUTSIDE;
        }
        boolean isStone = i >= PLACES;
        int p = isStone ? i - PLACES : i;
        if (isStone && !has(row.now.stands, p)) {
            return MISSING;
        }
        if (isStone != (kind == STONE) || !isStone && !isOf(row.now.kind[p], kind)) {
            return UNLIKE;
        }
        return isStone ? Integer.bitCount(row.now.stands & (2 << p) - 1) : p;
    }

    // ---- what several calls need

    private static boolean outside(int v, int many) {
        return v < 0 || v >= many;
    }

    private static boolean noByte(int v) {
        return outside(v, 256);
    }

    private static boolean has(int bits, int p) {
        return (bits >> p & 1) == 1;
    }

    private static int gapsEvery(int k) {
        int bits = 0;
        for (int p = k - 1; p < PLACES; p += k) {
            bits |= 1 << p;
        }
        return bits;
    }

    private static boolean isOf(int kind, int wanted) {
        int k = kind;
        for (int i = 0; i < KINDS && k >= 0 && k < KINDS && k != wanted; i++) {
            k = KIND_ABOVE[k];
        }
        return k == wanted;
    }

    /** 1 at least, so that it can divide. */
    private static int commonDivisor(int a, int b) {
        int common = Math.max(1, Math.max(a, b));
        while (common > 1 && (a % common != 0 || b % common != 0)) {
            common--;
        }
        return common;
    }

    /** What refuses a sheet that should tell of each place, or 0. */
    private int refusedAsTold(int s) {
        if (outside(s, SHEETS)) {
            return BAD;
        }
        if (sheets[s].isMissing()) {
            return MISSING;
        }
        return sheets[s].size == PLACES ? 0 : BAD;
    }

    private int firstOtherChance(int s) {
        for (int p = 0; p < PLACES; p++) {
            if (sheets[s].cells[p] != row.falls(p, 0)) {
                return p;
            }
        }
        return -1;
    }

    /** All that an image keeps. */
    private static final class State {
        final int[] kind = new int[PLACES];
        final int[] more = new int[PLACES];
        int gaps;
        int stands;
        int end;
        int reach;
        int law;

        void become(State other) {
            System.arraycopy(other.kind, 0, kind, 0, PLACES);
            System.arraycopy(other.more, 0, more, 0, PLACES);
            gaps = other.gaps;
            stands = other.stands;
            end = other.end;
            reach = other.reach;
            law = other.law;
        }
    }

    /** The texts, each as codes in the order in which they are reckoned: operands ahead of operators. */
    private static final class Texts {
        /** Codes from 0 on are numbers; the NAMES from NAME down are names; those from OR down operators. */
        static final int NAME = -1, NAMES = 6;
        static final int OR = -7, AND = -8, LESS = -9, SAME = -10;
        static final int PLUS = -11, MINUS = -12, TIMES = -13, NOT = -14, OPPOSITE = -15;

        private final int[][] codes = new int[MOST_TEXTS][TAPE_ROOM];
        private final int[][] begins = new int[MOST_TEXTS][PARTS + 1];
        /** Operands that wait for their operators; a place more, as what lies above the highest is looked at, too. */
        private final int[] pile = new int[TAPE_ROOM + 1];
        int many;

        Texts() {
            codes[0][FALLS] = 2;
            codes[0][TAKES] = 3;
            codes[0][CLOSES] = 10;
            for (int part = 0; part <= PARTS; part++) {
                begins[0][part] = part;
            }
            many = 1;
        }

        int add(int[] code, int[] partBegins) {
            System.arraycopy(code, 0, codes[many], 0, TAPE_ROOM);
            System.arraycopy(partBegins, 0, begins[many], 0, PARTS + 1);
            many++;
            return many - 1;
        }

        int reckon(int t, int part, int[] names) {
            int high = 0;
            for (int i = begins[t][part]; i < begins[t][part + 1]; i++) {
                int c = codes[t][i];
                if (c > OR) {
                    high++;
                } else if (c != NOT && c != OPPOSITE) {
                    high--;
                }
                if (high < 1 || high >= pile.length) {
                    return 0;
                }
                int a = pile[high - 1];
                int b = pile[high];
                switch (c) {
                    case OR: a = a != 0 || b != 0 ? 1 : 0; break;
                    case AND: a = a != 0 && b != 0 ? 1 : 0; break;
                    case LESS: a = a < b ? 1 : 0; break;
                    case SAME: a = a == b ? 1 : 0; break;
                    case PLUS: a += b; break;
                    case MINUS: a -= b; break;
                    case TIMES: a *= b; break;
                    case NOT: a = a == 0 ? 1 : 0; break;
                    case OPPOSITE: a = -a; break;
                    default: a = c >= 0 ? c : names[NAME - c]; break;
                }
                pile[high - 1] = a;
            }
            return pile[0];
        }
    }

    /** The tape, and how a text is read from it. */
    private static final class Reader {
        /** Tokens: a sign is its byte, a word WORD and its number. */
        static final int ENDED = 0, WRONG = 1, NUMBER = 2, WORD = 256;
        static final int WORDS = 12, OR = 259, AND = 260, NOT = 261, FIRST_NAME = 262;
        static final int MOST_DIGITS = 4;

        private final int[] tape = new int[TAPE_ROOM];
        final int[] code = new int[TAPE_ROOM];
        final int[] begins = new int[PARTS + 1];
        int size;
        private int codes;
        private int at;
        private int token;
        private int tokenAt;
        private int number;
        private int fault;

        void append(int v) {
            if (size < TAPE_ROOM) {
                tape[size] = v;
                size++;
            }
        }

        /** The place of the fault, or -1; then code and begins tell the text. */
        int readText() {
            at = 0;
            codes = 0;
            fault = -1;
            next();
            for (int part = 0; part < PARTS; part++) {
                begins[part] = codes;
                want(WORD + part);
                readOr(0);
                want(';');
            }
            begins[PARTS] = codes;
            want(ENDED);
            return fault;
        }

        /** A token that fits nowhere is left behind, so that nothing is read after the first fault. */
        private void fail() {
            if (fault < 0) {
                fault = tokenAt;
            }
            token = WRONG;
        }

        private void want(int wanted) {
            if (token == wanted) {
                next();
            } else {
                fail();
            }
        }

        private void emit(int c) {
            if (codes < TAPE_ROOM) {
                code[codes] = c;
                codes++;
            }
        }

        private void readOr(int open) {
            readAnd(open);
            for (int i = 0; i < TAPE_ROOM && token == OR; i++) {
                next();
                readAnd(open);
                emit(Texts.OR);
            }
        }

        private void readAnd(int open) {
            readNot(open);
            for (int i = 0; i < TAPE_ROOM && token == AND; i++) {
                next();
                readNot(open);
                emit(Texts.AND);
            }
        }

        private void readNot(int open) {
            if (token != NOT) {
                readCompared(open);
            } else if (open >= MOST_OPEN) {
                fail();
            } else {
                next();
                readNot(open + 1);
                emit(Texts.NOT);
            }
        }

        private void readCompared(int open) {
            readSum(open);
            if (token == '<' || token == '=') {
                int operator = token == '<' ? Texts.LESS : Texts.SAME;
                next();
                readSum(open);
                emit(operator);
            }
        }

        private void readSum(int open) {
            readTerm(open);
            for (int i = 0; i < TAPE_ROOM && (token == '+' || token == '-'); i++) {
                int operator = token == '+' ? Texts.PLUS : Texts.MINUS;
                next();
                readTerm(open);
                emit(operator);
            }
        }

        private void readTerm(int open) {
            readOne(open);
            for (int i = 0; i < TAPE_ROOM && token == '*'; i++) {
                next();
                readOne(open);
                emit(Texts.TIMES);
            }
        }

        private void readOne(int open) {
            if (token == NUMBER) {
                emit(number);
                next();
            } else if (token >= FIRST_NAME) {
                emit(Texts.NAME - (token - FIRST_NAME));
                next();
            } else if (open >= MOST_OPEN || token != '-' && token != '(') {
                fail();
            } else if (token == '-') {
                next();
                readOne(open + 1);
                emit(Texts.OPPOSITE);
            } else {
                next();
                readOr(open + 1);
                want(')');
            }
        }

        private void next() {
            while (at < size && (tape[at] == ' ' || tape[at] == '\n')) {
                at++;
            }
            tokenAt = at;
            if (at >= size) {
                token = ENDED;
            } else if (isLetter(tape[at])) {
                nextWord();
            } else if (isDigit(tape[at])) {
                nextNumber();
            } else {
                token = isSign(tape[at]) ? tape[at] : WRONG;
                at++;
            }
        }

        private void nextWord() {
            while (at < size && isLetter(tape[at])) {
                at++;
            }
            token = WRONG;
            for (int w = 0; w < WORDS; w++) {
                if (stands(word(w))) {
                    token = WORD + w;
                }
            }
        }

        private void nextNumber() {
            number = 0;
            while (at < size && isDigit(tape[at])) {
                number = number * 10 + (tape[at] - '0');
                at++;
            }
            token = at - tokenAt > MOST_DIGITS ? WRONG : NUMBER;
        }

        private boolean stands(String word) {
            if (word.length() != at - tokenAt) {
                return false;
            }
            for (int i = 0; i < word.length(); i++) {
                if (tape[tokenAt + i] != word.charAt(i)) {
                    return false;
                }
            }
            return true;
        }

        private static String word(int w) {
            switch (w) {
                case 0: return "falls";
                case 1: return "takes";
                case 2: return "closes";
                case 3: return "or";
                case 4: return "and";
                case 5: return "not";
                case 6: return "place";
                case 7: return "more";
                case 8: return "beside";
                case 9: return "gaps";
                case 10: return "end";
                default: return "reach";
            }
        }

        private static boolean isLetter(int v) {
            return v >= 'a' && v <= 'z';
        }

        private static boolean isDigit(int v) {
            return v >= '0' && v <= '9';
        }

        private static boolean isSign(int v) {
            return v == '(' || v == ')' || v == ';' || v == '+' || v == '-' || v == '*' || v == '<' || v == '=';
        }
    }

    /** The places as they are now, what the law says of them, and who falls by whom. */
    private static final class Row {
        final State now;
        private final Texts texts;
        private final int[] names = new int[Texts.NAMES];
        /** By place and beside what has been reckoned since forget(); -1: not yet. */
        private final int[] knownFalls = new int[PLACES * BESIDES];
        private final int[] knownCloses = new int[PLACES * BESIDES];
        private final int[] knownTakes = new int[PLACES];

        Row(Texts texts) {
            this.texts = texts;
            now = new State();
            forget();
        }

        void forget() {
            Arrays.fill(knownFalls, -1);
            Arrays.fill(knownCloses, -1);
            Arrays.fill(knownTakes, -1);
        }

        void become(int p, int kind, int more) {
            now.kind[p] = kind;
            now.more[p] = more;
            forget();
        }

        void obey(int t) {
            now.law = t;
            forget();
        }

        int says(int part, int p, int beside) {
            names[0] = p;
            names[1] = now.more[p];
            names[2] = beside;
            names[3] = Integer.bitCount(now.gaps);
            names[4] = now.end;
            names[5] = now.reach;
            return bounded(texts.reckon(now.law, part, names), part == FALLS ? 0 : 1);
        }

        private static int bounded(int v, int least) {
            return v < least ? least : v > 99 ? 99 : v;
        }

        int falls(int p, int beside) {
            int i = p * BESIDES + beside;
            if (knownFalls[i] < 0) {
                knownFalls[i] = bounded(fallsByKind(p, says(FALLS, p, beside), beside), 0);
            }
            return knownFalls[i];
        }

        private int fallsByKind(int p, int said, int beside) {
            switch (now.kind[p]) {
                case 1: return said + now.more[p];
                case 2: case RULED: return 2 * said;
                case 3: return said + now.more[p] + beside / 3;
                case 5: return said / (now.more[p] + 2);
                default: return said;
            }
        }

        int takes(int p) {
            if (knownTakes[p] < 0) {
                knownTakes[p] = Math.max(1, says(TAKES, p, 0) + takesMore(p));
            }
            return knownTakes[p];
        }

        private int takesMore(int p) {
            switch (now.kind[p]) {
                case 1: case 3: return 2;
                case RULED: return 3 + now.more[p];
                default: return 0;
            }
        }

        int closes(int p, int beside) {
            int i = p * BESIDES + beside;
            if (knownCloses[i] < 0) {
                knownCloses[i] = says(CLOSES, p, beside);
            }
            return knownCloses[i];
        }

        boolean stops(int p) {
            return now.kind[p] == RULED;
        }

        /** Who falls by a push of p, were the reach so. */
        int pushed(int p, int side, int reach) {
            if (!has(now.stands, p)) {
                return 0;
            }
            int bits = 1 << p;
            if (side != 2) {
                bits |= fallsOn(p, 1, now.stands, reach);
            }
            if (side != 1) {
                bits |= fallsOn(p, -1, now.stands, reach);
            }
            return bits;
        }

        /** Who of those that stand falls by a fall from p, step by step to one side; p itself is not told. */
        int fallsOn(int p, int step, int stands, int reach) {
            int bits = 0;
            int last = p;
            boolean on = !stops(p);
            for (int q = p + step; on && q >= 0 && q < PLACES; q += step) {
                if (!has(stands, q)) {
                    on = Math.abs(q - last) <= reach;
                } else if (stops(q)) {
                    on = false;
                } else {
                    bits |= 1 << q;
                    last = q;
                }
            }
            return bits;
        }
    }

    /** Stretches, and plans from one end at a time. */
    private static final class Plans {
        private final Row row;
        /** By first and last place the mean of a stretch from this way; -1: not reckoned yet. */
        private final long[] known = new long[PLACES * PLACES];
        /** All places as they are put up, and how many of the stretch stand then. */
        final int[] order = new int[PLACES];
        private final int[] besides = new int[PLACES];
        private int way;
        int longest;
        int longestAt;
        int stretches;

        Plans(Row row) {
            this.row = row;
        }

        /** Ahead of every plan: the row may have changed since the last one. */
        void from(int end) {
            way = end;
            Arrays.fill(known, -1L);
        }

        void measure(int set) {
            longest = 0;
            longestAt = -1;
            stretches = 0;
            for (int p = 0; p < PLACES; p++) {
                if (begins(p, set)) {
                    int size = lastOf(p, set) - p + 1;
                    stretches++;
                    if (size > longest) {
                        longest = size;
                        longestAt = p;
                    }
                }
            }
        }

        private boolean begins(int p, int set) {
            return !has(set, p) && (p == 0 || has(set, p - 1) || row.stops(p - 1) || row.stops(p));
        }

        /** The last place of the stretch that begins at first. */
        private int lastOf(int first, int set) {
            int last = first;
            if (!row.stops(first)) {
                while (last + 1 < PLACES && !has(set, last + 1) && !row.stops(last + 1)) {
                    last++;
                }
            }
            return last;
        }

        /** Which place of a stretch is put up when i of it have been. */
        private int upAfter(int first, int last, int i) {
            switch (way) {
                case 0: return first + i;
                case 1: return last - i;
                default:
                    int middle = (first + last) / 2;
                    return i % 2 == 1 ? middle + (i + 1) / 2 : middle - i / 2;
            }
        }

        void arrange(int set) {
            int many = 0;
            for (int p = 0; p < PLACES; p++) {
                if (begins(p, set)) {
                    int last = lastOf(p, set);
                    for (int i = 0; i <= last - p; i++) {
                        order[many] = upAfter(p, last, i);
                        besides[many] = i;
                        many++;
                    }
                }
            }
            for (int p = 0; p < PLACES; p++) {
                if (has(set, p)) {
                    order[many] = p;
                    besides[many] = 0;
                    many++;
                }
            }
        }

        long atOnce(int set) {
            arrange(set);
            long chance = CERTAIN;
            for (int i = 0; i < PLACES; i++) {
                chance = chance * (100 - row.falls(order[i], besides[i])) / 100;
            }
            return chance;
        }

        /**
         * Gaps are closed from the left on, so what a gap joins to its left is all that has been joined up to it:
         * one walk to the right that carries its mean and size is enough.
         */
        long meanBy(int set) {
            long total = 0;
            long joined = 0;
            int size = 0;
            for (int p = 0; p < PLACES; p++) {
                if (row.stops(p)) {
                    total = capped(total + (has(set, p) ? closing(p, 0, 0) : stretchMean(p, p)));
                    joined = 0;
                    size = 0;
                } else if (has(set, p)) {
                    int last = p + 1 < PLACES && !has(set, p + 1) && !row.stops(p + 1) ? lastOf(p + 1, set) : p;
                    long again = capped(joined + stretchMean(p + 1, last));
                    long all = closing(p, again, size + last - p);
                    total = capped(total + all);
                    joined = capped(again + all);
                    size += last - p + 1;
                } else if (begins(p, set)) {
                    int last = lastOf(p, set);
                    long mean = stretchMean(p, last);
                    total = capped(total + mean);
                    // behind a gap that doesn't stop it has been joined already
                    if (p == 0 || row.stops(p - 1)) {
                        joined = mean;
                        size = last - p + 1;
                    }
                }
            }
            return total;
        }

        /** 0, if last lies ahead of first: there is no stretch. */
        private long stretchMean(int first, int last) {
            if (last < first) {
                return 0;
            }
            int at = first * PLACES + last;
            if (known[at] < 0) {
                long mean = 0;
                for (int i = 0; i <= last - first; i++) {
                    int p = upAfter(first, last, i);
                    mean = capped((mean + 1000L * row.takes(p)) * 100 / (100 - row.falls(p, i)));
                }
                known[at] = mean;
            }
            return known[at];
        }

        private long closing(int p, long again, int beside) {
            int falls = row.falls(p, beside);
            long once = 1000L * (row.takes(p) + row.closes(p, beside)) * 100;
            return capped((once + again * falls) / (100 - falls));
        }

        private static long capped(long v) {
            return Math.min(v, MOST_MEAN);
        }
    }

    /** The first of several with the least mean. */
    private static final class Picks {
        private final Plans plans;
        private boolean any;
        long chosen;
        long least;

        Picks(Plans plans) {
            this.plans = plans;
        }

        void begin() {
            any = false;
            chosen = -1;
            least = -1;
        }

        void consider(int which, long mean) {
            if (!any || mean < least) {
                any = true;
                chosen = which;
                least = mean;
            }
        }

        long answer(int what) {
            return what == 0 ? chosen : least;
        }

        /** The smaller sets first, so that of like ones that of fewest stays. */
        void trySizes(int many) {
            for (int size = 0; size <= many; size++) {
                trySets(0, 0, size);
            }
        }

        /** All sets of a set and so many more gaps from a place on, the lowest places first. */
        private void trySets(int set, int from, int left) {
            if (left <= 0) {
                consider(set, plans.meanBy(set));
            } else {
                for (int p = from; p < PLACES; p++) {
                    trySets(set | 1 << p, p + 1, left - 1);
                }
            }
        }
    }

    /** Stones put up by lots, in thought, from what stands. */
    private static final class Lots {
        private final Row row;
        private long lot;
        int stands;
        int had;
        int fell;

        Lots(Row row) {
            this.row = row;
        }

        void begin(int seed) {
            lot = seed + 1;
            stands = row.now.stands;
            had = 0;
            fell = 0;
        }

        void drawRow(int seed, int n, int[] order) {
            begin(seed);
            for (int i = 0; i < n && stands != ALL_PLACES; i++) {
                putUp(firstEmpty(order));
            }
        }

        /** 0, if there is none. */
        private int firstEmpty(int[] order) {
            for (int i = 0; i < PLACES; i++) {
                if (!has(stands, order[i])) {
                    return order[i];
                }
            }
            return 0;
        }

        /** How many fall with it, or -1: it stands. */
        int putUp(int p) {
            lot = lot * 48271L % 2147483647L;
            had++;
            int reach = row.now.reach;
            int beside = row.fallsOn(p, 1, stands, reach) | row.fallsOn(p, -1, stands, reach);
            int many = Integer.bitCount(beside);
            if (lot % 100 < row.falls(p, many)) {
                stands &= ~beside;
                fell++;
                return many;
            }
            stands |= 1 << p;
            return -1;
        }
    }

    /** A row of numbers of a sort, or missing. */
    private static final class Sheet {
        final int[] cells = new int[SHEET_ROOM];
        int sort = -1;
        int size;

        boolean isMissing() {
            return sort < 0;
        }

        void renew(int newSort, int newSize) {
            Arrays.fill(cells, 0);
            sort = newSort;
            size = newSize;
        }

        void write(int i, int v) {
            cells[i] = sort == BYTES ? (byte) v : sort == SHORTS ? (short) v : v;
        }

        boolean holds(int from, int n) {
            return from >= 0 && n >= 0 && from <= size && n <= size - from;
        }

        /** The first place of which other is told than whether its bit is set, or -1. */
        int firstUnlike(int bits) {
            for (int p = 0; p < PLACES; p++) {
                if (cells[p] != (bits >> p & 1)) {
                    return p;
                }
            }
            return -1;
        }
    }
}
