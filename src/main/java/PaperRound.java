/** A newspaper in parts that goes round among readers: told plans, rules by which it goes, and the best plan of all. */
public final class PaperRound {

    public static final int BAD = -1, FULL = -2, FINDING = -3, STATE = -4, SPENT = -6, NONE = -9;

    private static final int NOTHING = 1, BEYOND = 2, UNLIKE = 3, NOUGHT = 4, SIZE = 5;
    private static final int CARD = 1, HOLD = 2, NEXT = 3, DEAR = 4, SHORT = 5;

    private static final int ROWS = 6, ROW_SIZE = 48, TEXTS = 4, TEXT_SIZE = 120, RULES = 6;
    private static final int PARTS = 6, READERS = 8, WANTS = 24, COPIES = 2, NOTS = 8, CUSHIONS = 8;
    private static final int LAST_MINUTE = 60, LAST_BEGIN = 59, LONGEST = 20;
    private static final int MOST_PLACED = 8, MOST_CARDED = 6, CARDS_OF_SIX = 720;

    private final Shelf rows;
    private final Shelf texts;
    private final HouseText houseText;
    private final Plan plan;
    private final Plan trialPlan;
    private final Rule[] rules;
    private final Rule trialRule;
    private final Round round;
    private final Search search;
    private final int[] findings;
    private House house;
    private House draft;
    private int finding;
    private int asked;

    public PaperRound() {
        rows = new Shelf(ROWS, ROW_SIZE);
        texts = new Shelf(TEXTS, TEXT_SIZE);
        houseText = new HouseText();
        plan = new Plan();
        trialPlan = new Plan();
        rules = new Rule[RULES];
        for (int k = 0; k < RULES; k++) {
            rules[k] = new Rule();
        }
        trialRule = new Rule();
        round = new Round();
        search = new Search();
        findings = new int[SIZE + 1];
        house = new House();
        draft = new House();
    }

    // ---- 1 rows, texts, houses

    public int row(int r, int n) {
        if (!rows.has(r) || n > ROW_SIZE) {
            return BAD;
        }
        if (n < 0) {
            return found(SIZE);
        }
        rows.begin(r, n, 0);
        return n;
    }

    public int lay(int r, int i, int v) {
        if (!rows.has(r)) {
            return BAD;
        }
        int lack = rows.lackAt(r, i);
        if (lack != 0) {
            return found(lack);
        }
        asked = rows.places[r][i];
        rows.places[r][i] = v;
        return 1;
    }

    public int at(int r, int i) {
        if (!rows.has(r)) {
            return BAD;
        }
        int lack = rows.lackAt(r, i);
        if (lack != 0) {
            return found(lack);
        }
        asked = rows.places[r][i];
        return 1;
    }

    public int tear(int r) {
        if (!rows.has(r)) {
            return BAD;
        }
        if (rows.isMissing(r)) {
            return found(NOTHING);
        }
        rows.sizes[r] = Shelf.MISSING;
        return 1;
    }

    public int copy(int r, int i, int to, int j, int n) {
        if (!rows.has(r) || !rows.has(to)) {
            return BAD;
        }
        if (n < 0) {
            return found(SIZE);
        }
        if (rows.isMissing(r) || rows.isMissing(to)) {
            return found(NOTHING);
        }
        if (!rows.spans(r, i, n) || !rows.spans(to, j, n)) {
            return found(BEYOND);
        }
        System.arraycopy(rows.places[r], i, rows.places[to], j, n);
        return 1;
    }

    public int mean(int r) {
        if (!rows.has(r)) {
            return BAD;
        }
        if (rows.isMissing(r)) {
            return found(NOTHING);
        }
        int size = rows.sizes[r];
        if (size < 1) {
            return found(NOUGHT);
        }
        long sum = 0;
        for (int i = 0; i < size; i++) {
            sum += rows.places[r][i];
        }
        asked = (int) (sum / size);
        return 1;
    }

    public int text(int t, int n) {
        if (!texts.has(t) || n > TEXT_SIZE) {
            return BAD;
        }
        if (n < 0) {
            return found(SIZE);
        }
        texts.begin(t, n, HouseText.BLANK);
        return n;
    }

    public int put(int t, int i, int v) {
        if (!texts.has(t)) {
            return BAD;
        }
        int lack = texts.lackAt(t, i);
        if (lack != 0) {
            return found(lack);
        }
        int old = texts.places[t][i];
        texts.places[t][i] = (byte) v;
        return old + 1000;
    }

    public int fault(int t) {
        if (!texts.has(t)) {
            return BAD;
        }
        if (texts.isMissing(t)) {
            return found(NOTHING);
        }
        return houseText.take(texts.places[t], texts.sizes[t], draft);
    }

    public int house(int t) {
        if (!texts.has(t)) {
            return BAD;
        }
        if (texts.isMissing(t)) {
            return found(NOTHING);
        }
        if (houseText.take(texts.places[t], texts.sizes[t], draft) != NONE) {
            return STATE;
        }
        House taken = draft;
        draft = house;
        house = taken;
        plan.clear();
        for (int k = 0; k < RULES; k++) {
            rules[k].kind = Rule.MISSING;
        }
        return house.wants;
    }

    public int part(int p, int what) {
        if (!house.hasPart(p) || what < 0 || what > 2) {
            return BAD;
        }
        asked = house.ofPart(p, what);
        return 1;
    }

    public int reader(int r, int what) {
        if (!house.hasReader(r) || what < 0 || what > 3) {
            return BAD;
        }
        asked = house.ofReader(r, what);
        return 1;
    }

    public int want(int w, int what) {
        if (!house.hasWant(w) || what < 0 || what > 5) {
            return BAD;
        }
        asked = ofWant(w, what);
        return 1;
    }

    public int copies(int p, int n) {
        if (!house.hasPart(p) || n < 1 || n > COPIES) {
            return BAD;
        }
        int old = house.copies[p];
        house.copies[p] = n;
        return old;
    }

    public int post(int p, int a, int f) {
        if (!house.hasPart(p) || a < 0 || a > LAST_BEGIN || f < 0 || f > 9) {
            return BAD;
        }
        house.comes[p] = a;
        house.stale[p] = f;
        return 1;
    }

    public int late(int r, int a, int b) {
        if (!house.hasReader(r) || a < 0 || b > LAST_MINUTE || a >= b) {
            return BAD;
        }
        house.from[r] = a;
        house.till[r] = b;
        return 1;
    }

    // ---- 2 plans

    public int read(int w, int t) {
        if (!house.hasWant(w) || !isBeginning(t)) {
            return BAD;
        }
        int old = plan.begins[w];
        plan.begins[w] = t;
        return old;
    }

    public int judge() {
        return plan.firstWrong(house);
    }

    public int missed(int r) {
        if (r == NONE) {
            return plan.lossOfAll(house);
        }
        return house.hasReader(r) ? plan.lossOf(house, r) : BAD;
    }

    public int who(int p, int t) {
        if (!house.hasPart(p) || t < 0 || t > LAST_MINUTE) {
            return BAD;
        }
        int bits = 0;
        for (int w = 0; w < house.wants; w++) {
            if (house.partOf[w] == p && plan.isReadIn(house, w, t)) {
                bits |= 1 << house.readerOf[w];
            }
        }
        return bits;
    }

    public int can(int r, int t) {
        if (!house.hasReader(r) || t < 0 || t > LAST_BEGIN) {
            return BAD;
        }
        if (plan.firstWrong(house) != NONE) {
            return STATE;
        }
        int bits = 0;
        for (int w = 0; w < house.wants; w++) {
            if (house.readerOf[w] == r && plan.begins[w] == NONE) {
                plan.begins[w] = t;
                if (plan.firstWrong(house) == NONE) {
                    bits |= 1 << w;
                }
                plan.begins[w] = NONE;
            }
        }
        return bits;
    }

    public int image(int r) {
        if (!rows.has(r)) {
            return BAD;
        }
        rows.begin(r, house.wants, NONE);
        System.arraycopy(plan.begins, 0, rows.places[r], 0, house.wants);
        return house.wants;
    }

    public int on(int r) {
        if (!rows.has(r)) {
            return BAD;
        }
        if (rows.isMissing(r)) {
            return found(NOTHING);
        }
        if (rows.sizes[r] != house.wants) {
            return found(SIZE);
        }
        for (int w = 0; w < house.wants; w++) {
            if (!isBeginning(rows.places[r][w])) {
                return found(UNLIKE);
            }
        }
        plan.become(rows.places[r], house.wants);
        return 1;
    }

    // ---- 3 rules

    public int rule(int k, int kind, int r) {
        if (k < 0 || k >= RULES || kind < CARD || kind > SHORT) {
            return BAD;
        }
        if (kind == CARD || kind == HOLD) {
            if (!rows.has(r)) {
                return BAD;
            }
            int lack = lackOfCard(r);
            if (lack != 0) {
                return found(lack);
            }
            System.arraycopy(rows.places[r], 0, rules[k].card, 0, house.readers);
        }
        rules[k].kind = kind;
        return 1;
    }

    public int mark(int k, int kind) {
        if (k < 0 || k >= RULES || kind < CARD || kind > SHORT) {
            return BAD;
        }
        Rule asks = rules[k];
        if (asks.kind == Rule.MISSING) {
            return found(NOTHING);
        }
        if (!asks.isOf(kind)) {
            return found(UNLIKE);
        }
        if (!asks.isCard()) {
            return kind;
        }
        if (house.readers < 1) {
            return NONE;
        }
        return asks.card[kind == HOLD ? house.readers - 1 : 0];
    }

    public int run(int k) {
        if (k < 0 || k >= RULES) {
            return BAD;
        }
        if (rules[k].kind == Rule.MISSING) {
            return found(NOTHING);
        }
        round.go(house, rules[k], plan);
        return plan.lossOfAll(house);
    }

    public int best(int r) {
        if (!rows.has(r)) {
            return BAD;
        }
        if (house.readers > MOST_CARDED) {
            return SPENT;
        }
        int n = house.readers;
        trialRule.beginCard(n);
        rows.begin(r, n, 0);
        int least = Search.NO_VALUE;
        for (int tried = 0; tried < CARDS_OF_SIX && least > 0; tried++) {
            round.go(house, trialRule, trialPlan);
            int loss = trialPlan.lossOfAll(house);
            if (loss < least) {
                least = loss;
                System.arraycopy(trialRule.card, 0, rows.places[r], 0, n);
            }
            if (!trialRule.nextCard(n)) {
                break;
            }
        }
        return least;
    }

    // ---- 4 the best of all

    public int least() {
        if (house.wants > MOST_PLACED) {
            return SPENT;
        }
        int loss = searchAll(Search.LEAST);
        plan.become(search.bestBegins, house.wants);
        return loss;
    }

    public int mend(int t) {
        if (t < 0 || t > LAST_BEGIN) {
            return BAD;
        }
        if (plan.firstWrong(house) != NONE) {
            return STATE;
        }
        if (house.wants - plan.begunAhead(house, t) > MOST_PLACED) {
            return SPENT;
        }
        search.start(house, t, true);
        keepAhead(t);
        for (int w = 0; w < house.wants; w++) {
            if (!plan.isBegunAhead(w, t)) {
                search.add(w);
            }
        }
        int loss = search.go(Search.LEAST);
        plan.become(search.bestBegins, house.wants);
        return loss;
    }

    public int soon() {
        if (house.wants > MOST_PLACED) {
            return SPENT;
        }
        int end = searchAll(Search.SOON);
        return end == Search.NO_VALUE ? NONE : end;
    }

    public int even() {
        if (house.wants > MOST_PLACED) {
            return SPENT;
        }
        int worst = searchAll(Search.EVEN);
        asked = search.bestLoss;
        return worst;
    }

    public int bound() {
        int sum = 0;
        for (int p = 0; p < house.parts; p++) {
            search.start(house, 0, false);
            for (int w = 0; w < house.wants; w++) {
                if (house.partOf[w] == p) {
                    search.add(w);
                }
            }
            sum += search.go(Search.LEAST);
        }
        return sum;
    }

    public int quarrel() {
        if (house.wants > MOST_PLACED) {
            return SPENT;
        }
        int stay = (1 << house.readers) - 1;
        if (canAllHaveAll(stay)) {
            return NONE;
        }
        for (int r = 0; r < house.readers; r++) {
            int without = stay & ~(1 << r);
            if (!canAllHaveAll(without)) {
                stay = without;
            }
        }
        return stay;
    }

    public int twice() {
        if (house.wants > MOST_PLACED) {
            return SPENT;
        }
        int part = NONE;
        int least = Search.NO_VALUE;
        for (int p = 0; p < house.parts; p++) {
            if (house.copies[p] == 1) {
                house.copies[p] = 2;
                int loss = searchAll(Search.LEAST);
                house.copies[p] = 1;
                if (loss < least) {
                    least = loss;
                    part = p;
                }
            }
        }
        if (part != NONE) {
            asked = least;
        }
        return part;
    }

    // ---- 5 what is told

    public int asked() {
        return asked;
    }

    public int count(int what) {
        switch (what) {
            case 0: return house.parts;
            case 1: return house.readers;
            case 2: return house.wants;
            case 3: return house.last;
            case 4: return plan.begunAhead(house, LAST_MINUTE);
            case 5: return rulesThere(false);
            case 6: return rulesThere(true);
            case 7: return rows.there();
            case 8: return texts.there();
            default: return BAD;
        }
    }

    public int finding() {
        return finding;
    }

    public int findings(int f) {
        if (f < NOTHING || f > SIZE) {
            return BAD;
        }
        return findings[f];
    }

    public long digest() {
        long h = 17;
        for (int what = 0; what <= 8; what++) {
            h = 31 * h + count(what);
        }
        h = digestOfHouse(h);
        for (int k = 0; k < RULES; k++) {
            h = 31 * h + (rules[k].kind == Rule.MISSING ? -1 : rules[k].kind);
            for (int i = 0; rules[k].isCard() && i < house.readers; i++) {
                h = 31 * h + rules[k].card[i];
            }
        }
        return texts.digestOn(rows.digestOn(h));
    }

    // ---- what the calls share

    private int found(int f) {
        if (f >= NOTHING && f <= SIZE) {
            finding = f;
            findings[f]++;
        }
        return FINDING;
    }

    private static boolean isBeginning(int t) {
        return t == NONE || t >= 0 && t <= LAST_BEGIN;
    }

    private int ofWant(int w, int what) {
        return what == 4 ? plan.begins[w] : house.ofWant(w, what);
    }

    /** The FINDING that keeps row r, which is one of the shelf's, from being a card; 0 if none does. */
    private int lackOfCard(int r) {
        if (rows.isMissing(r)) {
            return NOTHING;
        }
        if (rows.sizes[r] != house.readers) {
            return SIZE;
        }
        int seen = 0;
        for (int i = 0; i < house.readers; i++) {
            int reader = rows.places[r][i];
            if (!house.hasReader(reader) || (seen >> reader & 1) != 0) {
                return UNLIKE;
            }
            seen |= 1 << reader;
        }
        return 0;
    }

    private int rulesThere(boolean justCards) {
        int there = 0;
        for (int k = 0; k < RULES; k++) {
            boolean counts = justCards ? rules[k].isCard() : rules[k].kind != Rule.MISSING;
            there += counts ? 1 : 0;
        }
        return there;
    }

    private int searchAll(int goal) {
        search.start(house, 0, true);
        for (int w = 0; w < house.wants; w++) {
            search.add(w);
        }
        return search.go(goal);
    }

    private boolean canAllHaveAll(int readers) {
        search.start(house, 0, true);
        for (int w = 0; w < house.wants; w++) {
            if ((readers >> house.readerOf[w] & 1) != 0) {
                search.add(w);
            }
        }
        return search.go(Search.ALL) != Search.NO_VALUE;
    }

    /** By beginnings, then by wants' numbers, since that tells which copy each has. */
    private void keepAhead(int t) {
        for (int begin = 0; begin < t; begin++) {
            for (int w = 0; w < house.wants; w++) {
                if (plan.begins[w] == begin) {
                    search.keep(w, begin);
                }
            }
        }
    }

    private long digestOfHouse(long before) {
        long h = before;
        for (int p = 0; p < house.parts; p++) {
            for (int what = 0; what <= 2; what++) {
                h = 31 * h + house.ofPart(p, what);
            }
        }
        for (int r = 0; r < house.readers; r++) {
            for (int what = 0; what <= 3; what++) {
                h = 31 * h + house.ofReader(r, what);
            }
        }
        for (int w = 0; w < house.wants; w++) {
            for (int what = 0; what <= 5; what++) {
                h = 31 * h + ofWant(w, what);
            }
        }
        return h;
    }

    /** Rows of ints, or of bytes, each there with a size or missing; what is behind a row's size is not looked at. */
    private static final class Shelf {
        static final int MISSING = -1;

        final int[][] places;
        final int[] sizes;

        Shelf(int rows, int most) {
            places = new int[rows][most];
            sizes = new int[rows];
            for (int r = 0; r < rows; r++) {
                sizes[r] = MISSING;
            }
        }

        boolean has(int r) {
            return r >= 0 && r < sizes.length;
        }

        boolean isMissing(int r) {
            return sizes[r] == MISSING;
        }

        /** NOTHING or BEYOND, if place i of row r is not there; else 0. */
        int lackAt(int r, int i) {
            if (isMissing(r)) {
                return NOTHING;
            }
            return i < 0 || i >= sizes[r] ? BEYOND : 0;
        }

        boolean spans(int r, int i, int n) {
            return i >= 0 && n >= 0 && n <= sizes[r] && i <= sizes[r] - n;
        }

        void begin(int r, int n, int v) {
            sizes[r] = n;
            for (int i = 0; i < n; i++) {
                places[r][i] = v;
            }
        }

        int there() {
            int there = 0;
            for (int r = 0; r < sizes.length; r++) {
                there += isMissing(r) ? 0 : 1;
            }
            return there;
        }

        long digestOn(long before) {
            long h = before;
            for (int r = 0; r < sizes.length; r++) {
                h = 31 * h + sizes[r];
                for (int i = 0; i < sizes[r]; i++) {
                    h = 31 * h + places[r][i];
                }
            }
            return h;
        }
    }

    /** Parts, readers and wants, as a text told them or later calls changed them. */
    private static final class House {
        int last = LAST_MINUTE;
        int parts;
        int readers;
        int wants;
        final int[] copies = new int[PARTS];
        final int[] comes = new int[PARTS];
        final int[] stale = new int[PARTS];
        /** The minutes under a cushion, a bit each. */
        final long[] covered = new long[PARTS];
        final int[] from = new int[READERS];
        final int[] till = new int[READERS];
        final int[] wantsOf = new int[READERS];
        final boolean[] ordered = new boolean[READERS];
        final int[] readerOf = new int[WANTS];
        final int[] partOf = new int[WANTS];
        final int[] minutes = new int[WANTS];
        final int[] worth = new int[WANTS];
        /** The readers after whom a want is not wanted, and these readers' wants of the same part. */
        final int[] notAfter = new int[WANTS];
        final int[] rivals = new int[WANTS];
        /** The wants that are to be read ahead of a want, since its reader told an order. */
        final int[] ahead = new int[WANTS];

        void clear() {
            last = LAST_MINUTE;
            parts = 0;
            readers = 0;
            wants = 0;
        }

        boolean hasPart(int p) {
            return p >= 0 && p < parts;
        }

        boolean hasReader(int r) {
            return r >= 0 && r < readers;
        }

        boolean hasWant(int w) {
            return w >= 0 && w < wants;
        }

        int ofPart(int p, int what) {
            switch (what) {
                case 0: return copies[p];
                case 1: return comes[p];
                default: return stale[p];
            }
        }

        int ofReader(int r, int what) {
            switch (what) {
                case 0: return from[r];
                case 1: return till[r];
                case 2: return wantsOf[r];
                default: return ordered[r] ? 1 : 0;
            }
        }

        int ofWant(int w, int what) {
            switch (what) {
                case 0: return readerOf[w];
                case 1: return partOf[w];
                case 2: return minutes[w];
                case 3: return worth[w];
                default: return notAfter[w];
            }
        }

        void addPart(int n, int minute, int f) {
            if (parts < PARTS) {
                copies[parts] = n;
                comes[parts] = minute;
                stale[parts] = f;
                covered[parts] = 0;
                parts++;
            }
        }

        void addReader(int a, int b, boolean inOrder) {
            if (readers < READERS) {
                from[readers] = a;
                till[readers] = b;
                wantsOf[readers] = 0;
                ordered[readers] = inOrder;
                readers++;
            }
        }

        /** A want of the reader added last. */
        void addWant(int p, int length, int value) {
            if (wants < WANTS && readers > 0) {
                int r = readers - 1;
                readerOf[wants] = r;
                partOf[wants] = p;
                minutes[wants] = length;
                worth[wants] = value;
                notAfter[wants] = 0;
                rivals[wants] = 0;
                ahead[wants] = ordered[r] ? wantsOf[r] : 0;
                wantsOf[r] |= 1 << wants;
                wants++;
            }
        }

        void forbid(int r, int q, int p) {
            int w = wantOf(r, p);
            int rival = wantOf(q, p);
            if (w != NONE) {
                notAfter[w] |= 1 << q;
                rivals[w] |= rival == NONE ? 0 : 1 << rival;
            }
        }

        void cover(int p, int a, int b) {
            for (int t = a; t <= b; t++) {
                covered[p] |= 1L << t;
            }
        }

        int wantOf(int r, int p) {
            for (int w = 0; w < wants; w++) {
                if (readerOf[w] == r && partOf[w] == p) {
                    return w;
                }
            }
            return NONE;
        }

        int worthAt(int w, int t) {
            return Math.max(0, worth[w] - stale[partOf[w]] * (t / 10));
        }

        /** The first minute under a cushion of those in which want w would be read from t on; NONE. */
        int coveredFrom(int w, int t) {
            long bits = covered[partOf[w]];
            for (int m = t; m < t + minutes[w] && m <= LAST_MINUTE; m++) {
                if ((bits >> m & 1) != 0) {
                    return m;
                }
            }
            return NONE;
        }

        /** Whether one after whom want w is not wanted began its part ahead of minute t. */
        boolean comesAfter(int w, int t, int[] begins) {
            int bits = rivals[w];
            for (int x = 0; bits != 0 && x < wants; x++) {
                if ((bits >> x & 1) != 0 && begins[x] != NONE && begins[x] < t) {
                    return true;
                }
            }
            return false;
        }

        int latestBegin(int w) {
            return Math.min(till[readerOf[w]], last) - minutes[w];
        }
    }

    /** Reads a text into a house, up to the first place at which it can't go on. */
    private static final class HouseText {
        static final int BLANK = 32;
        /** No byte is this. */
        static final int END = 1000;

        private int[] bytes;
        private int size;
        private int place;
        private int number;
        private int nots;
        private int cushions;
        private House house;

        /** The place of the fault, or NONE; only behind NONE the house is whole. */
        int take(int[] from, int n, House into) {
            bytes = from;
            size = n;
            place = 0;
            nots = 0;
            cushions = 0;
            house = into;
            house.clear();
            boolean goesOn = true;
            for (int items = 0; items < size && place < size && goesOn; items++) {
                switch (look()) {
                    case BLANK: goesOn = takeSign(' '); break;
                    case 'm': goesOn = takeLast(); break;
                    case 'p': goesOn = takePart(); break;
                    case 'r': goesOn = takeReader(); break;
                    case 'n': goesOn = takeNot(); break;
                    case 'c': goesOn = takeCushion(); break;
                    default: goesOn = false; break;
                }
            }
            return goesOn ? NONE : place;
        }

        private int look() {
            return place < size && place < bytes.length ? bytes[place] : END;
        }

        private boolean takeSign(char sign) {
            if (look() != sign) {
                return false;
            }
            place++;
            return true;
        }

        /** The figure that comes next; NONE, if none does. */
        private int figure() {
            int sign = look();
            return sign >= '0' && sign <= '9' ? sign - '0' : NONE;
        }

        private boolean takeFigure(int low, int high) {
            number = figure();
            if (number == NONE || number < low || number > high) {
                return false;
            }
            place++;
            return true;
        }

        private boolean takeMinute(int low, int high) {
            number = figure();
            if (number == NONE) {
                return false;
            }
            place++;
            int second = figure();
            if (second != NONE) {
                number = number * 10 + second;
                place++;
            }
            return number >= low && number <= high;
        }

        private boolean takeLast() {
            place++;
            if (!takeMinute(1, LAST_MINUTE)) {
                return false;
            }
            house.last = number;
            return true;
        }

        private boolean takePart() {
            if (house.parts >= PARTS) {
                return false;
            }
            place++;
            if (!takeFigure(1, COPIES)) {
                return false;
            }
            int copies = number;
            int comes = 0;
            int stale = 0;
            if (takeSign(':')) {
                if (!takeMinute(0, LAST_BEGIN)) {
                    return false;
                }
                comes = number;
            }
            if (takeSign('s')) {
                if (!takeFigure(0, 9)) {
                    return false;
                }
                stale = number;
            }
            house.addPart(copies, comes, stale);
            return true;
        }

        private boolean takeReader() {
            if (house.readers >= READERS) {
                return false;
            }
            place++;
            if (!takeMinute(0, LAST_MINUTE)) {
                return false;
            }
            int a = number;
            if (!takeSign('-') || !takeMinute(a + 1, LAST_MINUTE)) {
                return false;
            }
            int b = number;
            if (!takeSign('(')) {
                return false;
            }
            house.addReader(a, b, takeSign('!'));
            for (int told = 0; told <= PARTS; told++) {
                if (!takeWant()) {
                    return false;
                }
                if (!takeSign(',')) {
                    break;
                }
            }
            return takeSign(')');
        }

        private boolean takeWant() {
            int p = figure();
            if (house.wants >= WANTS || !house.hasPart(p) || house.wantOf(house.readers - 1, p) != NONE) {
                return false;
            }
            place++;
            if (!takeSign('*') || !takeMinute(1, LONGEST)) {
                return false;
            }
            int minutes = number;
            if (!takeSign('=') || !takeFigure(1, 9)) {
                return false;
            }
            house.addWant(p, minutes, number);
            return true;
        }

        private boolean takeNot() {
            if (nots >= NOTS) {
                return false;
            }
            place++;
            if (!takeFigure(0, house.readers - 1)) {
                return false;
            }
            int r = number;
            if (!takeSign('/') || figure() == r || !takeFigure(0, house.readers - 1)) {
                return false;
            }
            int q = number;
            if (!takeSign('@') || !takeFigure(0, house.parts - 1)) {
                return false;
            }
            house.forbid(r, q, number);
            nots++;
            return true;
        }

        private boolean takeCushion() {
            if (cushions >= CUSHIONS) {
                return false;
            }
            place++;
            if (!takeFigure(0, house.parts - 1)) {
                return false;
            }
            int p = number;
            if (!takeSign('@') || !takeMinute(0, LAST_MINUTE)) {
                return false;
            }
            int a = number;
            if (!takeSign('-') || !takeMinute(a, LAST_MINUTE)) {
                return false;
            }
            house.cover(p, a, number);
            cushions++;
            return true;
        }
    }

    /** When each want begins, or NONE. */
    private static final class Plan {
        final int[] begins = new int[WANTS];

        Plan() {
            for (int w = 0; w < WANTS; w++) {
                begins[w] = NONE;
            }
        }

        void clear() {
            for (int w = 0; w < WANTS; w++) {
                begins[w] = NONE;
            }
        }

        void become(int[] others, int n) {
            for (int w = 0; w < n && w < WANTS && w < others.length; w++) {
                begins[w] = others[w];
            }
        }

        boolean isBegunAhead(int w, int t) {
            return begins[w] != NONE && begins[w] < t;
        }

        int begunAhead(House house, int t) {
            int begun = 0;
            for (int w = 0; w < house.wants; w++) {
                begun += isBegunAhead(w, t) ? 1 : 0;
            }
            return begun;
        }

        boolean isReadIn(House house, int w, int t) {
            return begins[w] != NONE && begins[w] <= t && t < begins[w] + house.minutes[w];
        }

        int lossOf(House house, int r) {
            int loss = 0;
            for (int w = 0; w < house.wants; w++) {
                loss += house.readerOf[w] == r ? lossBy(house, w) : 0;
            }
            return loss;
        }

        int lossOfAll(House house) {
            int loss = 0;
            for (int w = 0; w < house.wants; w++) {
                loss += lossBy(house, w);
            }
            return loss;
        }

        private int lossBy(House house, int w) {
            return house.worth[w] - (begins[w] == NONE ? 0 : house.worthAt(w, begins[w]));
        }

        /** The first minute at which the plan does not go; NONE if it goes. */
        int firstWrong(House house) {
            int first = LAST_MINUTE + 1;
            for (int w = 0; w < house.wants; w++) {
                if (begins[w] != NONE) {
                    first = Math.min(first, firstWrongOf(house, w));
                }
            }
            return first > LAST_MINUTE ? NONE : first;
        }

        /** The first wrong minute that shows at the reading of w; too many at once show where one of them begins. */
        private int firstWrongOf(House house, int w) {
            int t = begins[w];
            if (t < house.from[house.readerOf[w]] || t < house.comes[house.partOf[w]]) {
                return t;
            }
            if (isCrowded(house, w) || !isInOrder(house, w) || house.comesAfter(w, t, begins)) {
                return t;
            }
            int first = LAST_MINUTE + 1;
            if (t > house.latestBegin(w)) {
                first = Math.max(t, house.latestBegin(w) + house.minutes[w]);
            }
            int covered = house.coveredFrom(w, t);
            return covered == NONE ? first : Math.min(first, covered);
        }

        private boolean isCrowded(House house, int w) {
            int ofPart = 0;
            int ofReader = 0;
            for (int x = 0; x < house.wants; x++) {
                if (isReadIn(house, x, begins[w])) {
                    ofPart += house.partOf[x] == house.partOf[w] ? 1 : 0;
                    ofReader += house.readerOf[x] == house.readerOf[w] ? 1 : 0;
                }
            }
            return ofReader > 1 || ofPart > house.copies[house.partOf[w]];
        }

        private boolean isInOrder(House house, int w) {
            for (int x = 0; x < w; x++) {
                boolean isAhead = (house.ahead[w] >> x & 1) != 0;
                if (isAhead && (begins[x] == NONE || begins[x] + house.minutes[x] > begins[w])) {
                    return false;
                }
            }
            return true;
        }
    }

    /** By what the paper goes round; a card tells its readers. */
    private static final class Rule {
        static final int MISSING = 0;

        int kind = MISSING;
        final int[] card = new int[READERS];

        boolean isCard() {
            return kind == CARD || kind == HOLD;
        }

        boolean isOf(int other) {
            return kind == other || kind == HOLD && other == CARD;
        }

        void beginCard(int n) {
            kind = CARD;
            for (int i = 0; i < n && i < READERS; i++) {
                card[i] = i;
            }
        }

        /** The next card of n readers by its places' readers; false behind the last one. */
        boolean nextCard(int n) {
            int i = Math.min(n, READERS) - 2;
            while (i >= 0 && card[i] > card[i + 1]) {
                i--;
            }
            if (i < 0) {
                return false;
            }
            int j = Math.min(n, READERS) - 1;
            while (j > i && card[j] < card[i]) {
                j--;
            }
            swap(i, j);
            int high = Math.min(n, READERS) - 1;
            for (int low = i + 1; low < high; low++) {
                swap(low, high);
                high--;
            }
            return true;
        }

        private void swap(int i, int j) {
            int reader = card[i];
            card[i] = card[j];
            card[j] = reader;
        }
    }

    /** Lets the paper go round by a rule, minute by minute. */
    private static final class Round {
        private House house;
        private Rule rule;
        private int[] begins;
        private int begun;
        /** When a reader came or ended reading: from then on he is free, and waits. */
        private final int[] freeFrom = new int[READERS];
        /** When a copy is free, as far as is known, and who had it last. */
        private final int[] copyEnd = new int[PARTS * COPIES];
        private final int[] copyReader = new int[PARTS * COPIES];

        void go(House in, Rule by, Plan plan) {
            house = in;
            rule = by;
            begins = plan.begins;
            plan.clear();
            begun = 0;
            for (int r = 0; r < house.readers; r++) {
                freeFrom[r] = house.from[r];
            }
            for (int c = 0; c < PARTS * COPIES; c++) {
                copyEnd[c] = 0;
                copyReader[c] = NONE;
            }
            int all = (1 << house.wants) - 1;
            for (int t = 0; t < house.last && begun != all; t++) {
                int w = pick(t);
                for (int n = 0; n < WANTS && w != NONE; n++) {
                    begin(w, t);
                    w = pick(t);
                }
            }
        }

        private int pick(int t) {
            switch (rule.kind) {
                case NEXT: return pickNext(t);
                case DEAR: return pickDear(t);
                case SHORT: return pickShort(t);
                default: return pickByCard(t);
            }
        }

        private int pickByCard(int t) {
            for (int i = 0; i < house.readers; i++) {
                int w = firstOf(rule.card[i], t);
                if (w != NONE) {
                    return w;
                }
            }
            return NONE;
        }

        private int pickNext(int t) {
            int picked = NONE;
            int since = 0;
            for (int r = 0; r < house.readers; r++) {
                int w = firstOf(r, t);
                if (w != NONE && (picked == NONE || freeFrom[r] < since)) {
                    picked = w;
                    since = freeFrom[r];
                }
            }
            return picked;
        }

        private int pickDear(int t) {
            int picked = NONE;
            int worth = 0;
            for (int w = 0; w < house.wants; w++) {
                if (mayBegin(w, t) && (picked == NONE || house.worthAt(w, t) > worth)) {
                    picked = w;
                    worth = house.worthAt(w, t);
                }
            }
            return picked;
        }

        private int pickShort(int t) {
            int picked = NONE;
            int minutes = 0;
            for (int w = 0; w < house.wants; w++) {
                if (mayBegin(w, t) && (picked == NONE || house.minutes[w] < minutes)) {
                    picked = w;
                    minutes = house.minutes[w];
                }
            }
            return picked;
        }

        private int firstOf(int r, int t) {
            if (!house.hasReader(r) || t < freeFrom[r] || isThrough(r)) {
                return NONE;
            }
            for (int w = 0; w < house.wants; w++) {
                if (house.readerOf[w] == r && mayBegin(w, t)) {
                    return w;
                }
            }
            return NONE;
        }

        private boolean mayBegin(int w, int t) {
            int p = house.partOf[w];
            if ((begun >> w & 1) != 0 || t < freeFrom[house.readerOf[w]] || t > house.latestBegin(w)) {
                return false;
            }
            // Who is free has ended all that he has begun, so begun is read here.
            if (t < house.comes[p] || (house.ahead[w] & ~begun) != 0 || freeCopy(p, t) == NONE) {
                return false;
            }
            return house.coveredFrom(w, t) == NONE && !house.comesAfter(w, t, begins);
        }

        private boolean isThrough(int r) {
            return (house.wantsOf[r] & ~begun) == 0;
        }

        private int freeCopy(int p, int t) {
            for (int c = p * COPIES; c < p * COPIES + house.copies[p]; c++) {
                if (copyEnd[c] <= t) {
                    return c;
                }
            }
            return NONE;
        }

        private void begin(int w, int t) {
            int r = house.readerOf[w];
            int c = freeCopy(house.partOf[w], t);
            begins[w] = t;
            begun |= 1 << w;
            freeFrom[r] = t + house.minutes[w];
            if (c != NONE) {
                copyReader[c] = r;
                copyEnd[c] = rule.kind == HOLD ? house.till[r] : freeFrom[r];
            }
            if (rule.kind == HOLD && isThrough(r)) {
                letGo(r);
            }
        }

        /** Who begins the last of his wants keeps till the end of that one what else he would keep till he goes. */
        private void letGo(int r) {
            for (int c = 0; c < PARTS * COPIES; c++) {
                if (copyReader[c] == r) {
                    copyEnd[c] = freeFrom[r];
                }
            }
        }
    }

    /** Looks at rows of wants in their order for the first one whose value is least. */
    private static final class Search {
        /** What is made least: all that is missed; the worst reader's loss; the last end; whether all have all. */
        static final int LEAST = 0, EVEN = 1, SOON = 2, ALL = 3;
        /** Above every value. */
        static final int NO_VALUE = 1000000;

        int bestLoss;
        final int[] bestBegins = new int[WANTS];
        private House house;
        private int goal;
        private int from;
        private boolean ordersCount;
        private int best;
        private int loss;
        private int placed;
        private int todos;
        private final int[] todo = new int[MOST_PLACED];
        /** By the row's length and the place in todo: when that want could begin next, told orders aside. */
        private final int[][] next = new int[MOST_PLACED + 1][MOST_PLACED];
        private final int[] lossOf = new int[READERS];
        private final int[] hopeOf = new int[READERS];
        private final int[] begins = new int[WANTS];
        private final int[] readerEnd = new int[READERS];
        private final int[] copyEnd = new int[PARTS * COPIES];

        void start(House in, int minute, boolean inOrder) {
            house = in;
            from = minute;
            ordersCount = inOrder;
            loss = 0;
            placed = 0;
            todos = 0;
            for (int w = 0; w < WANTS; w++) {
                begins[w] = NONE;
            }
            for (int r = 0; r < READERS; r++) {
                readerEnd[r] = 0;
                lossOf[r] = 0;
            }
            for (int c = 0; c < PARTS * COPIES; c++) {
                copyEnd[c] = 0;
            }
        }

        /** A reading that stays, ahead of all rows. */
        void keep(int w, int t) {
            miss(w, house.worth[w]);
            place(w, t, firstCopy(house.partOf[w]));
        }

        /** A want that is to be placed. */
        void add(int w) {
            if (todos < MOST_PLACED) {
                todo[todos] = w;
                todos++;
                miss(w, house.worth[w]);
            }
        }

        /** The least value; NO_VALUE, if no row has one. */
        int go(int what) {
            goal = what;
            best = NO_VALUE;
            bestLoss = NO_VALUE;
            grow(this, 0);
            return best;
        }

        /** All longer rows that begin with the one that stands, which has so many wants. */
        private static void grow(Search s, int length) {
            s.weigh(length);
            if (length >= s.todos || length >= MOST_PLACED || s.hope(length) >= s.best) {
                return;
            }
            for (int i = 0; i < s.todos; i++) {
                int w = s.todo[i];
                int t = s.next[length][i];
                if (t != NONE && s.isNext(w)) {
                    int r = s.house.readerOf[w];
                    int c = s.firstCopy(s.house.partOf[w]);
                    int readerEnd = s.readerEnd[r];
                    int copyEnd = s.copyEnd[c];
                    s.place(w, t, c);
                    grow(s, length + 1);
                    s.takeBack(w, t);
                    s.readerEnd[r] = readerEnd;
                    s.copyEnd[c] = copyEnd;
                }
            }
        }

        private void weigh(int length) {
            int value = NO_VALUE;
            switch (goal) {
                case LEAST: value = loss; break;
                case EVEN: value = worst(lossOf); break;
                case SOON: value = length == todos ? worst(readerEnd) : NO_VALUE; break;
                default: value = length == todos ? 0 : NO_VALUE; break;
            }
            if (value < best) {
                best = value;
                bestLoss = loss;
                for (int w = 0; w < WANTS; w++) {
                    bestBegins[w] = begins[w];
                }
            }
        }

        /** What no longer row's value is below; each further want only makes the others begin later, or never. */
        private int hope(int length) {
            int lossAtLeast = loss;
            int end = worst(readerEnd);
            boolean allCan = true;
            for (int r = 0; r < READERS; r++) {
                hopeOf[r] = lossOf[r];
            }
            for (int i = 0; i < todos; i++) {
                int w = todo[i];
                if ((placed >> w & 1) == 0) {
                    int t = earliest(w);
                    next[length][i] = t;
                    allCan = allCan && t != NONE;
                    int worth = t == NONE ? 0 : house.worthAt(w, t);
                    lossAtLeast -= worth;
                    hopeOf[house.readerOf[w]] -= worth;
                    end = Math.max(end, t + house.minutes[w]);
                }
            }
            switch (goal) {
                case LEAST: return lossAtLeast;
                case EVEN: return worst(hopeOf);
                case SOON: return allCan ? end : NO_VALUE;
                default: return allCan ? 0 : NO_VALUE;
            }
        }

        private static int worst(int[] each) {
            int most = 0;
            for (int i = 0; i < each.length; i++) {
                most = Math.max(most, each[i]);
            }
            return most;
        }

        private boolean isNext(int w) {
            boolean inOrder = !ordersCount || (house.ahead[w] & ~placed) == 0;
            return inOrder && (placed >> w & 1) == 0;
        }

        /** The least minute in which want w can begin behind all that is placed, told orders aside; NONE. */
        private int earliest(int w) {
            int r = house.readerOf[w];
            int p = house.partOf[w];
            int low = Math.max(Math.max(from, readerEnd[r]), copyEnd[firstCopy(p)]);
            low = Math.max(low, Math.max(house.from[r], house.comes[p]));
            int high = house.latestBegin(w);
            for (int x = 0; x < house.wants; x++) {
                if (begins[x] != NONE && (house.rivals[w] >> x & 1) != 0) {
                    high = Math.min(high, begins[x]);
                }
                if (begins[x] != NONE && (house.rivals[x] >> w & 1) != 0) {
                    low = Math.max(low, begins[x]);
                }
            }
            for (int t = low; t <= high; t++) {
                if (house.coveredFrom(w, t) == NONE) {
                    return t;
                }
            }
            return NONE;
        }

        private int firstCopy(int p) {
            int c = p * COPIES;
            return house.copies[p] > 1 && copyEnd[c + 1] < copyEnd[c] ? c + 1 : c;
        }

        private void place(int w, int t, int c) {
            begins[w] = t;
            placed |= 1 << w;
            readerEnd[house.readerOf[w]] = t + house.minutes[w];
            copyEnd[c] = t + house.minutes[w];
            miss(w, -house.worthAt(w, t));
        }

        private void takeBack(int w, int t) {
            begins[w] = NONE;
            placed &= ~(1 << w);
            miss(w, house.worthAt(w, t));
        }

        private void miss(int w, int worth) {
            loss += worth;
            lossOf[house.readerOf[w]] += worth;
        }
    }
}
