// Where the fair is next. What each call must answer stands in ../shared/DOC.md;
// the words in capitals in the comments are its terms.
public final class FairNext {
    public static final int BAD = -1, FULL = -2, NONE = -3, STATE = -4;

    // what the host refuses
    private static final int MISSING = -11, OUTSIDE = -12, OTHER_SORT = -13, BELOW_0 = -14, PARTED_BY_0 = -15;
    private static final int NOTHING = -9, NO_ROW = -99, FAULTY = -100, FEWER_ROWS = 222;

    private static final int YEARS = 24, HORIZON = 100, MOST_VILLAGES = 10, MOST_HELD = 6;
    private static final int ALL_RULES = 600, MOST_MISSES = 9, MOST_WORDS = 4;
    private static final int TAPE = 200, TRACE = 30, PLACES = 4, SHEET = 40, ROW = 3;
    private static final int DEEPEST = 20;

    private static final int RULE = 0, LINE = 1, BACK = 2, TABLE = 3, MARKED = 4, TURNED = 5;
    private static final int CALLS = 0, HOLDS = 1, SHARES = 2, TELLS = 3;
    private static final int BYTES = 0, SHORTS = 1, LONGS = 3, ROW_SORTS = 10;

    // the KIND that each KIND is under
    private static final int[] OVER = {-1, 0, 1, 0, 1, 2};

    // the body that each KIND (a line each) runs for calls, holds, shares, tells
    private static final int[] BODY = {
        10, 11, 12, 13,
        10, 20, 12, 13,
        40, 41, 12, 13,
        30, 11, 12, 31,
        51, 20, 50, 13,
        40, 41, 61, 60};

    private final Book book = new Book();
    private final Book kept = new Book();
    // what a text tells is gathered apart, so that a FAULT changes nothing
    private final Book told = new Book();
    private final Tape tape = new Tape();
    private final Rows rows = new Rows();
    private final Sheets sheets = new Sheets();
    private final Shelves shelves = new Shelves();
    private final Thing thing = new Thing();
    // SHARES of those that say each VILLAGE; made once, filled by weigh
    private final int[] shares = new int[MOST_VILLAGES];
    // what stands in the YEARS while a RULE goes ON; made once, filled by goOn
    private final int[] ahead = new int[HORIZON];
    private boolean isKept = false;
    private int z = 1;
    private int keptZ = 1;

    public FairNext() {
    }

    // ---- the book

    public int feed(long eight, int n) {
        if (outside(n, 1, 8)) {
            return BAD;
        }
        return tape.take(eight, n) ? tape.count : FULL;
    }

    public int book() {
        int fault = tape.readInto(told);
        tape.count = 0;
        if (fault >= 0) {
            return FAULTY - fault;
        }
        book.become(told);
        rows.count = 0;
        return book.toldYears();
    }

    public int year(int year, int village) {
        if (outside(year, 0, YEARS - 1) || outside(village, -1, MOST_VILLAGES - 1)) {
            return BAD;
        }
        int was = book.village[year];
        book.village[year] = village < 0 ? NOTHING : village;
        return was;
    }

    public int mark(int year, int v) {
        if (outside(year, 0, YEARS - 1) || outside(v, 0, 9)) {
            return BAD;
        }
        int was = book.mark[year];
        book.mark[year] = v;
        return was;
    }

    public int yearOf(int year, int what) {
        if (outside(year, 0, YEARS - 1) || outside(what, 0, 1)) {
            return BAD;
        }
        return what == 0 ? book.village[year] : book.mark[year];
    }

    public int villages(int n) {
        if (outside(n, 2, MOST_VILLAGES)) {
            return BAD;
        }
        int was = book.villages;
        book.villages = n;
        return was;
    }

    // ---- rules

    public int hold(int kind, int a, int b, int k) {
        if (outside(kind, RULE, TURNED) || outside(a, 0, 4) || outside(b, 0, 4) || outside(k, 1, 4)) {
            return BAD;
        }
        if (book.heldCount >= MOST_HELD) {
            return FULL;
        }
        book.holdRule(codeOf(kind, a, b, k));
        return book.heldCount - 1;
    }

    public int ruleOf(int rule, int what) {
        if (!book.holds(rule) || outside(what, 0, 5)) {
            return BAD;
        }
        return partOf(book.held[rule], what);
    }

    public int drop(int rule) {
        if (!book.holds(rule)) {
            return BAD;
        }
        book.dropRule(rule);
        return book.heldCount;
    }

    public int says(int rule, int year) {
        if (!book.holds(rule) || outside(year, 0, HORIZON - 1)) {
            return BAD;
        }
        return book.saying(book.held[rule], year, book.village);
    }

    public int run(int rule) {
        if (!book.holds(rule)) {
            return BAD;
        }
        return book.longestRun(book.held[rule]);
    }

    public int believed(int rule, int n) {
        if (!book.holds(rule) || outside(n, 1, 9)) {
            return BAD;
        }
        return book.yearOfRun(book.held[rule], n);
    }

    public int on(int rule, int year) {
        if (!book.holds(rule) || outside(year, book.last(), HORIZON - 1)) {
            return BAD;
        }
        goOn(book.held[rule]);
        return ahead[year];
    }

    public int here(int rule, int village, int from) {
        if (!book.holds(rule) || outside(village, 0, MOST_VILLAGES - 1) || outside(from, 0, HORIZON - 1)) {
            return BAD;
        }
        goOn(book.held[rule]);
        for (int year = Math.max(from, book.last()); year < HORIZON; year++) {
            if (ahead[year] == village) {
                return year;
            }
        }
        return NONE;
    }

    public int never(int rule) {
        if (!book.holds(rule)) {
            return BAD;
        }
        goOn(book.held[rule]);
        int set = (1 << book.villages) - 1;
        for (int year = book.last(); year < HORIZON; year++) {
            if (ahead[year] >= 0) {
                set &= ~(1 << ahead[year]);
            }
        }
        return set;
    }

    // ---- all rules

    public int fits(int m) {
        if (outside(m, 0, MOST_MISSES)) {
            return BAD;
        }
        int many = 0;
        for (int rule = 0; rule < ALL_RULES; rule++) {
            if (book.fitting(rule, m)) {
                many++;
            }
        }
        return many;
    }

    public int plainest(int m, int what) {
        if (outside(m, 0, MOST_MISSES) || outside(what, 0, 5)) {
            return BAD;
        }
        int rule = book.plainestRule(m, MOST_WORDS + 1);
        return rule < 0 ? NONE : partOf(rule, what);
    }

    public int odds(int year, int village, int m, int part) {
        if (badWhen(year, m) || outside(village, 0, MOST_VILLAGES - 1) || outside(part, 0, 1)) {
            return BAD;
        }
        int all = weigh(year, m);
        if (all == 0) {
            return NONE;
        }
        int divisor = commonDivisor(shares[village], all);
        if (divisor < 1) {
            return NONE;
        }
        return (part == 0 ? shares[village] : all) / divisor;
    }

    public int bet(int year, int m) {
        if (badWhen(year, m)) {
            return BAD;
        }
        if (weigh(year, m) == 0) {
            return NONE;
        }
        int best = 0;
        for (int village = 1; village < MOST_VILLAGES; village++) {
            if (shares[village] > shares[best]) {
                best = village;
            }
        }
        return best;
    }

    public int hard(int year, int m) {
        if (badWhen(year, m)) {
            return BAD;
        }
        if (weigh(year, m) == 0) {
            return NONE;
        }
        int hardest = 0;
        for (int village = 1; village < MOST_VILLAGES && village < book.villages; village++) {
            if (shares[village] < shares[hardest]) {
                hardest = village;
            }
        }
        return hardest;
    }

    public int sure(int year, int m) {
        if (badWhen(year, m)) {
            return BAD;
        }
        int all = weigh(year, m);
        if (all == 0) {
            return NONE;
        }
        for (int village = 0; village < MOST_VILLAGES; village++) {
            if (shares[village] == all) {
                return village;
            }
        }
        return NONE;
    }

    public int leave(int m) {
        if (outside(m, 0, MOST_MISSES)) {
            return BAD;
        }
        int now = book.plainestRule(m, MOST_WORDS + 1);
        int fewest = now < 0 ? MOST_WORDS + 1 : wordsOf(now);
        int left = NONE;
        for (int year = 0; year < YEARS; year++) {
            int village = book.village[year];
            if (village != NOTHING) {
                book.village[year] = NOTHING;
                int rule = book.plainestRule(m, fewest);
                book.village[year] = village;
                if (rule >= 0) {
                    fewest = wordsOf(rule);
                    left = year;
                }
            }
        }
        return left;
    }

    public int camp(int year, int m) {
        if (badWhen(year, m)) {
            return BAD;
        }
        if (weigh(year, m) == 0) {
            return NONE;
        }
        int best = 0;
        for (int village = 1; village < book.villages; village++) {
            if (farFrom(village) < farFrom(best)) {
                best = village;
            }
        }
        return best;
    }

    public int seed(int v) {
        int was = z;
        z = v;
        return was;
    }

    public int draw(int year, int m) {
        if (badWhen(year, m)) {
            return BAD;
        }
        int all = weigh(year, m);
        if (all == 0) {
            return NONE;
        }
        z = z * 1103515245 + 12345;
        return drawn(year, m, (z >>> 16) % all);
    }

    // ---- rows

    public int prove(int rule) {
        if (!book.holds(rule)) {
            return BAD;
        }
        rows.count = 0;
        for (int year = 0; year < YEARS; year++) {
            if (book.village[year] != NOTHING) {
                int said = book.saying(book.held[rule], year, book.village);
                rows.add(year, said, said == book.village[year] ? 1 : 0);
            }
        }
        return rows.count;
    }

    public int row(int i, int what) {
        return rows.isCell(i, what) ? rows.cells[i * ROW + what] : NO_ROW;
    }

    public int alterRow(int i, int what, int v) {
        if (!rows.isCell(i, what)) {
            return NO_ROW;
        }
        int was = rows.cells[i * ROW + what];
        rows.cells[i * ROW + what] = v;
        return was;
    }

    public int judge(int rule) {
        if (!book.holds(rule)) {
            return BAD;
        }
        int due = 0;
        for (int year = 0; year < YEARS; year++) {
            if (book.village[year] != NOTHING) {
                int said = book.saying(book.held[rule], year, book.village);
                if (due < rows.count && !rows.is(due, year, said, said == book.village[year] ? 1 : 0)) {
                    return due + 1;
                }
                due++;
            }
        }
        if (rows.count > due) {
            return due + 1;
        }
        return rows.count < due ? FEWER_ROWS : 0;
    }

    public int years(int sheet, int i, int year, int n) {
        if (outside(sheet, 0, PLACES - 1) || outside(year, 0, YEARS - 1) || outside(n, 0, YEARS - year)) {
            return BAD;
        }
        if (sheets.sort[sheet] < 0) {
            return MISSING;
        }
        if (sheets.sort[sheet] != BYTES) {
            return OTHER_SORT;
        }
        if (outside(i, 0, sheets.size[sheet] - n)) {
            return OUTSIDE;
        }
        int many = 0;
        for (int j = 0; j < n; j++) {
            int village = (int) sheets.items[sheet * SHEET + i + j];
            boolean lost = outside(village, 0, MOST_VILLAGES - 1);
            book.village[year + j] = lost ? NOTHING : village;
            many += lost ? 0 : 1;
        }
        return many;
    }

    // ---- the host

    public int sheet(int sheet, int sort, int n) {
        if (outside(sheet, 0, PLACES - 1) || outside(sort, -1, LONGS) || (sort >= 0 && n > SHEET)) {
            return BAD;
        }
        if (sort >= 0 && n < 0) {
            return BELOW_0;
        }
        sheets.renew(sheet, sort, sort < 0 ? 0 : n);
        return 1;
    }

    public int put(int sheet, int i, int v) {
        if (outside(sheet, 0, PLACES - 1)) {
            return BAD;
        }
        if (sheets.sort[sheet] < 0) {
            return MISSING;
        }
        if (outside(i, 0, sheets.size[sheet] - 1)) {
            return OUTSIDE;
        }
        sheets.items[sheet * SHEET + i] = narrowed(v, sheets.sort[sheet]);
        return 1;
    }

    public int item(int sheet, int sort, int i) {
        if (outside(sheet, 0, PLACES - 1) || outside(sort, BYTES, LONGS)) {
            return BAD;
        }
        if (sheets.sort[sheet] < 0) {
            return MISSING;
        }
        if (sheets.sort[sheet] != sort) {
            return OTHER_SORT;
        }
        if (outside(i, 0, sheets.size[sheet] - 1)) {
            return OUTSIDE;
        }
        return (int) sheets.items[sheet * SHEET + i];
    }

    public int shelf(int shelf, int what, int n) {
        if (outside(shelf, 0, PLACES - 1) || outside(what, 0, 2)) {
            return BAD;
        }
        if ((what == 0 && !book.holds(n)) || (what == 1 && outside(n, 0, PLACES - 1))) {
            return BAD;
        }
        if (what == 0) {
            shelves.holdRule(shelf, n);
        } else if (what == 1 && sheets.sort[n] >= 0) {
            shelves.holdRow(shelf, sheets.sort[n], sheets.size[n]);
        } else {
            shelves.clear(shelf);
        }
        return 1;
    }

    public int taken(int shelf, int as) {
        boolean isKind = !outside(as, RULE, TURNED);
        boolean isSort = !outside(as, ROW_SORTS, ROW_SORTS + LONGS);
        if (outside(shelf, 0, PLACES - 1) || (!isKind && !isSort)) {
            return BAD;
        }
        int rule = shelves.rule[shelf];
        if (book.holds(rule)) {
            return isKind && isUnder(kindOf(book.held[rule]), as) ? rule : OTHER_SORT;
        }
        if (shelves.sort[shelf] < 0) {
            return MISSING;
        }
        return shelves.sort[shelf] == as - ROW_SORTS ? shelves.size[shelf] : OTHER_SORT;
    }

    public int act(int shelf, int act, int x) {
        // of a refused act there is no TRACE either
        thing.ranCount = 0;
        if (outside(shelf, 0, PLACES - 1) || outside(act, CALLS, TELLS)) {
            return 0;
        }
        int rule = shelves.rule[shelf];
        if (!book.holds(rule)) {
            return 0;
        }
        thing.become(kindOf(book.held[rule]), rule, aOf(book.held[rule]));
        return thing.answer(act, x);
    }

    public int trace(int i) {
        return outside(i, 0, thing.ranCount - 1) ? NONE : thing.ran[i];
    }

    public int many(int what) {
        switch (what) {
            case 0: return book.toldYears();
            case 1: return book.heldCount;
            case 2: return book.villages;
            case 3: return book.last();
            case 4: return rows.count;
            case 5: return tape.count;
            case 6: return thing.ranCount;
            default: return BAD;
        }
    }

    // ---- kept

    public int keep() {
        kept.become(book);
        keptZ = z;
        isKept = true;
        return 1;
    }

    public int again() {
        if (!isKept) {
            return NONE;
        }
        book.become(kept);
        z = keptZ;
        return book.toldYears();
    }

    // ---- what the calls share

    private static boolean outside(int v, int least, int most) {
        return v < least || v > most;
    }

    private static boolean badWhen(int year, int m) {
        return outside(year, 0, HORIZON - 1) || outside(m, 0, MOST_MISSES);
    }

    private static int rest(int v, int n) {
        return n < 1 ? 0 : v % n;
    }

    private static int commonDivisor(int a, int b) {
        // Euclid's steps are far fewer than 64 for any two ints
        for (int i = 0; i < 64 && b != 0; i++) {
            int left = a % b;
            a = b;
            b = left;
        }
        return a;
    }

    private static long narrowed(int v, int sort) {
        if (sort == BYTES) {
            return (byte) v;
        }
        return sort == SHORTS ? (short) v : v;
    }

    // A RULE is one number, its place in ALL RULES.
    private static int codeOf(int kind, int a, int b, int k) {
        return kind * 100 + a * 20 + b * 4 + k - 1;
    }

    private static int kindOf(int rule) {
        return rule / 100;
    }

    private static int aOf(int rule) {
        return rule / 20 % 5;
    }

    private static int bOf(int rule) {
        return rule / 4 % 5;
    }

    private static int kOf(int rule) {
        return rule % 4 + 1;
    }

    private static int wordsOf(int rule) {
        return 1 + (aOf(rule) != 0 ? 1 : 0) + (bOf(rule) != 0 ? 1 : 0) + (kOf(rule) != 1 ? 1 : 0);
    }

    private static int shareOf(int rule) {
        return 1 << 2 * (MOST_WORDS - wordsOf(rule));
    }

    private static boolean isUnder(int kind, int over) {
        int at = kind;
        for (int i = 0; i < OVER.length && at >= 0 && at < OVER.length; i++) {
            if (at == over) {
                return true;
            }
            at = OVER[at];
        }
        return false;
    }

    private int partOf(int rule, int what) {
        switch (what) {
            case 0: return kindOf(rule);
            case 1: return aOf(rule);
            case 2: return bOf(rule);
            case 3: return kOf(rule);
            case 4: return wordsOf(rule);
            default: return book.misses(rule, YEARS);
        }
    }

    private void goOn(int rule) {
        int last = book.last();
        for (int year = 0; year < HORIZON; year++) {
            ahead[year] = year < last && year < YEARS ? book.village[year] : book.saying(rule, year, ahead);
        }
    }

    // Fills shares for a YEAR; answers their sum, 0 if none that FITS says anything there.
    private int weigh(int year, int m) {
        for (int village = 0; village < MOST_VILLAGES; village++) {
            shares[village] = 0;
        }
        int all = 0;
        for (int rule = 0; rule < ALL_RULES; rule++) {
            int said = book.saying(rule, year, book.village);
            if (!outside(said, 0, MOST_VILLAGES - 1) && book.fitting(rule, m)) {
                shares[said] += shareOf(rule);
                all += shareOf(rule);
            }
        }
        return all;
    }

    private int drawn(int year, int m, int beyond) {
        int sum = 0;
        for (int rule = 0; rule < ALL_RULES; rule++) {
            int said = book.saying(rule, year, book.village);
            if (said != NOTHING && book.fitting(rule, m)) {
                sum += shareOf(rule);
                if (sum > beyond) {
                    return said;
                }
            }
        }
        return NONE;
    }

    private int farFrom(int village) {
        int sum = 0;
        for (int other = 0; other < MOST_VILLAGES; other++) {
            int apart = Math.abs(village - other);
            sum += shares[other] * Math.min(apart, book.villages - apart);
        }
        return sum;
    }

    // THE BOOK and the HELD RULES.
    private static final class Book {
        final int[] village = new int[YEARS];
        final int[] mark = new int[YEARS];
        final int[] held = new int[MOST_HELD];
        int heldCount;
        int villages;

        Book() {
            clear();
        }

        void clear() {
            for (int year = 0; year < YEARS; year++) {
                village[year] = NOTHING;
                mark[year] = 0;
            }
            heldCount = 0;
            villages = MOST_VILLAGES;
        }

        void become(Book other) {
            System.arraycopy(other.village, 0, village, 0, YEARS);
            System.arraycopy(other.mark, 0, mark, 0, YEARS);
            System.arraycopy(other.held, 0, held, 0, MOST_HELD);
            heldCount = other.heldCount;
            villages = other.villages;
        }

        int toldYears() {
            int many = 0;
            for (int year = 0; year < YEARS; year++) {
                if (village[year] != NOTHING) {
                    many++;
                }
            }
            return many;
        }

        int last() {
            int last = 0;
            for (int year = 0; year < YEARS; year++) {
                if (village[year] != NOTHING) {
                    last = year + 1;
                }
            }
            return last;
        }

        boolean holds(int rule) {
            return rule >= 0 && rule < heldCount && rule < MOST_HELD;
        }

        void holdRule(int rule) {
            if (heldCount < MOST_HELD) {
                held[heldCount] = rule;
                heldCount++;
            }
        }

        void dropRule(int rule) {
            for (int i = rule; i >= 0 && i + 1 < heldCount && i + 1 < MOST_HELD; i++) {
                held[i] = held[i + 1];
            }
            heldCount--;
        }

        // SAYS of a RULE for a YEAR, if what stands in the YEARS ahead of it is told by stands.
        int saying(int rule, int year, int[] stands) {
            int b = bOf(rule);
            switch (kindOf(rule)) {
                case RULE: return rest(b, villages);
                case LINE: return rest(aOf(rule) * year + b, villages);
                case MARKED: return rest(aOf(rule) * year + b + (year < YEARS ? mark[year] : 0), villages);
                case TABLE: return tableSaying(year, kOf(rule), stands);
                case BACK: return backSaying(rule, standing(stands, year - kOf(rule)), 0);
                case TURNED: return backSaying(rule, standing(stands, year - kOf(rule)), standing(stands, year - 1));
                default: return NOTHING;
            }
        }

        int tableSaying(int year, int step, int[] stands) {
            for (int back = 1; back < HORIZON && back * step <= year; back++) {
                int stood = standing(stands, year - back * step);
                if (stood != NOTHING) {
                    return rest(stood, villages);
                }
            }
            return NOTHING;
        }

        int backSaying(int rule, int stood, int more) {
            if (stood == NOTHING || more == NOTHING) {
                return NOTHING;
            }
            return rest(aOf(rule) * stood + bOf(rule) + more, villages);
        }

        static int standing(int[] stands, int year) {
            return year < 0 || year >= stands.length ? NOTHING : stands[year];
        }

        // MISSES of a RULE; once they are more than most, counting stops.
        int misses(int rule, int most) {
            int many = 0;
            for (int year = 0; year < YEARS && many <= most; year++) {
                if (village[year] != NOTHING && saying(rule, year, village) != village[year]) {
                    many++;
                }
            }
            return many;
        }

        boolean fitting(int rule, int m) {
            return misses(rule, m) <= m;
        }

        // PLAINEST, if it has fewer WORDS than below; NONE otherwise.
        int plainestRule(int m, int below) {
            int plainest = NONE;
            int fewest = below;
            for (int rule = 0; rule < ALL_RULES; rule++) {
                if (wordsOf(rule) < fewest && fitting(rule, m)) {
                    plainest = rule;
                    fewest = wordsOf(rule);
                }
            }
            return plainest;
        }

        int longestRun(int rule) {
            int longest = 0;
            int run = 0;
            for (int year = 0; year < YEARS; year++) {
                if (village[year] != NOTHING) {
                    run = saying(rule, year, village) == village[year] ? run + 1 : 0;
                    longest = Math.max(longest, run);
                }
            }
            return longest;
        }

        int yearOfRun(int rule, int n) {
            int run = 0;
            for (int year = 0; year < YEARS; year++) {
                if (village[year] != NOTHING) {
                    run = saying(rule, year, village) == village[year] ? run + 1 : 0;
                    if (run == n) {
                        return year;
                    }
                }
            }
            return NONE;
        }
    }

    // THE TAPE, and how its text is read.
    private static final class Tape {
        final byte[] bytes = new byte[TAPE];
        int count = 0;
        private int place = 0;
        // the first FAULT of the text, -1 as long as there is none
        private int fault = -1;

        Tape() {
        }

        boolean take(long eight, int n) {
            if (n < 0 || n > TAPE - count) {
                return false;
            }
            for (int i = 0; i < n; i++) {
                bytes[count + i] = (byte) (eight >>> 8 * i);
            }
            count += n;
            return true;
        }

        // What the text tells goes into a Book; answers its FAULT, -1 if there is none.
        int readInto(Book into) {
            into.clear();
            place = 0;
            fault = -1;
            skipBlanks();
            for (int i = 0; i < TAPE && place < count && fault < 0; i++) {
                readOne(into);
                skipBlanks();
            }
            return fault;
        }

        private void readOne(Book into) {
            int from = place;
            int kind = kindNamed();
            if (kind >= 0) {
                readRule(into, kind, from);
            } else if (named("villages")) {
                int n = number(2, MOST_VILLAGES);
                into.villages = fault < 0 ? n : into.villages;
            } else if (named("year")) {
                readYear(into, true);
            } else if (named("lost")) {
                readYear(into, false);
            } else {
                fail(place);
            }
            end();
        }

        private int kindNamed() {
            if (named("rule")) {
                return RULE;
            }
            if (named("line")) {
                return LINE;
            }
            if (named("back")) {
                return BACK;
            }
            if (named("table")) {
                return TABLE;
            }
            if (named("marked")) {
                return MARKED;
            }
            return named("turned") ? TURNED : -1;
        }

        private void readRule(Book into, int kind, int from) {
            if (into.heldCount >= MOST_HELD) {
                fail(from);
            }
            int a = number(0, 4);
            int b = number(0, 4);
            int k = number(1, 4);
            if (fault < 0) {
                into.holdRule(codeOf(kind, a, b, k));
            }
        }

        private void readYear(Book into, boolean isTold) {
            int year = number(0, YEARS - 1);
            int village = NOTHING;
            if (isTold) {
                need("at");
                village = number(0, MOST_VILLAGES - 1);
            }
            skipBlanks();
            int mark = fault < 0 && named("mark") ? number(0, 9) : 0;
            if (fault < 0 && !outside(year, 0, YEARS - 1)) {
                into.village[year] = village;
                into.mark[year] = mark;
            }
        }

        private void fail(int at) {
            if (fault < 0) {
                fault = at;
            }
        }

        private int byteAt(int i) {
            return i >= 0 && i < count && i < TAPE ? bytes[i] : -1;
        }

        private boolean letterAt(int i) {
            return byteAt(i) >= 'a' && byteAt(i) <= 'z';
        }

        private boolean digitAt(int i) {
            return byteAt(i) >= '0' && byteAt(i) <= '9';
        }

        private void skipBlanks() {
            while (place < count && byteAt(place) == ' ') {
                place++;
            }
        }

        // Whether the NAME that begins here is this one; if it is, it is passed.
        private boolean named(String name) {
            for (int i = 0; i < name.length(); i++) {
                if (byteAt(place + i) != name.charAt(i)) {
                    return false;
                }
            }
            if (letterAt(place + name.length())) {
                return false;
            }
            place += name.length();
            return true;
        }

        private void need(String name) {
            skipBlanks();
            if (fault < 0 && !named(name)) {
                fail(place);
            }
        }

        private int number(int least, int most) {
            skipBlanks();
            int from = place;
            int v = 0;
            while (place < count && digitAt(place)) {
                // more than two digits are refused below, so v may stay as it is
                v = place - from < 2 ? v * 10 + byteAt(place) - '0' : v;
                place++;
            }
            if (place == from || place - from > 2 || outside(v, least, most)) {
                fail(from);
            }
            return v;
        }

        private void end() {
            skipBlanks();
            if (byteAt(place) != ';') {
                fail(place);
            }
            place++;
        }
    }

    // ROWS, each of three cells.
    private static final class Rows {
        final int[] cells = new int[YEARS * ROW];
        int count = 0;

        Rows() {
        }

        void add(int year, int said, int right) {
            if (count < YEARS) {
                cells[count * ROW] = year;
                cells[count * ROW + 1] = said;
                cells[count * ROW + 2] = right;
                count++;
            }
        }

        boolean isCell(int i, int what) {
            return i >= 0 && i < count && i < YEARS && what >= 0 && what < ROW;
        }

        boolean is(int i, int year, int said, int right) {
            return isCell(i, 0) && cells[i * ROW] == year
                && cells[i * ROW + 1] == said && cells[i * ROW + 2] == right;
        }
    }

    // SHEETS; the items of one stand behind those of the one before. Sort -1: missing.
    private static final class Sheets {
        final int[] sort = {-1, -1, -1, -1};
        final int[] size = new int[PLACES];
        final long[] items = new long[PLACES * SHEET];

        Sheets() {
        }

        void renew(int sheet, int newSort, int n) {
            if (sheet < 0 || sheet >= PLACES) {
                return;
            }
            sort[sheet] = newSort;
            size[sheet] = n;
            for (int i = 0; i < SHEET; i++) {
                items[sheet * SHEET + i] = 0;
            }
        }
    }

    // SHELVES. A row on a shelf stays what it was when its SHEET becomes another one,
    // so its sort and size are noted; its items can't be asked for.
    private static final class Shelves {
        final int[] rule = {-1, -1, -1, -1};
        final int[] sort = {-1, -1, -1, -1};
        final int[] size = new int[PLACES];

        Shelves() {
        }

        void clear(int shelf) {
            if (shelf >= 0 && shelf < PLACES) {
                rule[shelf] = -1;
                sort[shelf] = -1;
                size[shelf] = 0;
            }
        }

        void holdRule(int shelf, int number) {
            clear(shelf);
            if (shelf >= 0 && shelf < PLACES) {
                rule[shelf] = number;
            }
        }

        void holdRow(int shelf, int rowSort, int n) {
            clear(shelf);
            if (shelf >= 0 && shelf < PLACES) {
                sort[shelf] = rowSort;
                size[shelf] = n;
            }
        }
    }

    // The thing that acts, and THE TRACE; one acts at a time, so one object serves all.
    private static final class Thing {
        final int[] ran = new int[TRACE];
        int ranCount = 0;
        private int kind = 0;
        private int number = 0;
        private int a = 0;
        private boolean parted = false;

        Thing() {
        }

        void become(int newKind, int newNumber, int newA) {
            kind = newKind;
            number = newNumber;
            a = newA;
        }

        int answer(int act, int x) {
            parted = false;
            int v = own(act, x, 0);
            return parted ? PARTED_BY_0 : v;
        }

        // The body that this KIND has for an act.
        private int own(int act, int x, int depth) {
            int i = kind * 4 + act;
            return i < 0 || i >= BODY.length ? 0 : body(BODY[i], x, depth);
        }

        // Bodies call those above them by their numbers, as super does. Behind a parting by 0
        // none begins any more.
        private int body(int id, int x, int depth) {
            if (parted || depth > DEEPEST) {
                return 0;
            }
            note(id);
            int d = depth + 1;
            switch (id) {
                case 10: return x + number;
                case 11: return own(CALLS, x, d) * 2;
                case 12: return part(x);
                case 13: return own(HOLDS, x, d) ^ a;
                case 20: return body(11, x, d) - a;
                case 30: return body(10, x, d) * 3;
                case 31: return body(13, x, d) + own(SHARES, number, d);
                case 40: return 0 - body(10, x, d);
                case 41: return body(20, x, d) + own(CALLS, number, d);
                case 50: return body(12, x + 2, d) ^ 1;
                case 51: return body(10, x, d) - number;
                case 60: return body(13, x, d) * 2;
                case 61: return body(12, x, d) + own(CALLS, a, d);
                default: return 0;
            }
        }

        private int part(int x) {
            int by = a - number;
            if (by == 0) {
                parted = true;
                return 0;
            }
            return x / by;
        }

        private void note(int id) {
            if (ranCount >= 0 && ranCount < TRACE) {
                ran[ranCount] = id;
                ranCount++;
            }
        }
    }
}
