/** Promises 36 to 40 and the ANSWERS, sentence by sentence. */
public final class EdgeToldTest {
    private static final int NONE = Check.NONE, MIN = Check.MIN, MAX = Check.MAX;
    private static final int CARD = 1, HOLD = 2, NEXT = 3, SHORT = 5;
    private static final int BIG = 1 << 30;

    public static void main(String[] args) {
        fiveHundredCalls();
        answers();
        order();
        changesNothing();
        findingsToldApart();
        asked();
        askedStays();
        askedOfNone();
        counts();
        countsOfMost();
        countRefused();
        finding();
        findings();
        findingsStay();
        findingsRefused();
        digestOfNew();
        digestOfEach();
        digestOfHouse();
        digestOfRules();
        digestOfRows();
        digestOfTexts();
        digestWraps();
        digestChangesNothing();
        Check.end();
    }

    // ---- answers

    private static void answers() {
        Check.terms(0, "BAD -1 (a number that is none, or not as told), FULL -2, STATE -4 (not now), SPENT -6 (more than told), FINDING -3 (finding() tells which), unless a call says so otherwise. NONE -9.");
        Check.due("BAD", PaperRound.BAD, -1);
        Check.due("FULL", PaperRound.FULL, -2);
        Check.due("STATE", PaperRound.STATE, -4);
        Check.due("SPENT", PaperRound.SPENT, -6);
        Check.due("FINDING", PaperRound.FINDING, -3);
        Check.due("NONE", PaperRound.NONE, -9);
        Check.gives(Homes::full, -1, "a BAD number", x -> x.at(6, 0));
        Check.gives(Homes::wrong, -4, "not now", x -> x.can(0, 0));
        Check.gives(Homes::nine, -6, "more than told", PaperRound::least);
        Check.gives(Homes::full, -3, "a FINDING", x -> x.at(4, 0));
        Check.gives(Homes::full, -9, "none", PaperRound::judge);
    }

    private static void order() {
        Check.terms(0, "the first of these that fits, in this order:");
        Check.bad(Homes::wrong, "BAD ahead of STATE", x -> x.can(8, 0));
        Check.bad(Homes::seven, "BAD ahead of SPENT", x -> x.best(6));
        Check.bad(Homes::full, "BAD ahead of FINDING", x -> x.row(6, -1));
        Check.refuses(Homes::nineWrong, Check.STATE, "STATE ahead of SPENT", x -> x.mend(0));
        Check.terms(0, "unless a call says so otherwise.");
        Check.finding(Homes::full, Check.NOTHING, "house(): NOTHING ahead of STATE", x -> x.house(3));
        Check.refuses(Homes::full, Check.STATE, "house(): STATE", x -> x.house(1));
    }

    private static void changesNothing() {
        Check.terms(0, "What is refused changes nothing but finding(), findings().");
        Check.Made[] states = {Homes::none, Homes::full, Homes::wrong, Homes::nine, Homes::nineWrong, Homes::seven};
        for (Check.Made made : states) {
            Check.bad(made, "row", x -> x.row(0, 49));
            Check.bad(made, "text", x -> x.text(0, 121));
            Check.bad(made, "part", x -> x.part(6, 0));
            Check.bad(made, "post", x -> x.post(0, 60, 0));
            Check.bad(made, "late", x -> x.late(0, 9, 9));
            Check.bad(made, "copies", x -> x.copies(0, 3));
            Check.bad(made, "read", x -> x.read(0, 60));
            Check.bad(made, "rule", x -> x.rule(0, 6, 0));
            Check.bad(made, "mend", x -> x.mend(60));
            Check.finding(made, Check.NOTHING, "a ROW that is missing", x -> x.lay(4, 0, 1));
            Check.finding(made, Check.NOTHING, "a TEXT that is missing", x -> x.house(3));
            Check.finding(made, Check.NOTHING, "a RULE that is missing", x -> x.run(5));
            Check.finding(made, Check.SIZE, "fewer than none", x -> x.row(0, -1));
            Check.finding(made, Check.SIZE, "fewer than none", x -> x.text(0, -1));
        }
        Check.Made[] wrong = {Homes::wrong, Homes::nineWrong};
        for (Check.Made made : wrong) {
            Check.refuses(made, Check.STATE, "mend, it does not go", x -> x.mend(30));
            Check.refuses(made, Check.STATE, "can, it does not go", x -> x.can(1, 30));
        }
    }

    private static void findingsToldApart() {
        Check.terms(0, "FINDINGS: 1 NOTHING (a ROW, a TEXT, a RULE that is missing), 2 BEYOND (a place that there is not), 3 UNLIKE (a RULE of another KIND; a number that is none), 4 NOUGHT (shared among none), 5 SIZE (fewer than none; not as many as due).");
        Check.finding(Homes::full, 1, "a ROW", x -> x.at(4, 0));
        Check.finding(Homes::full, 1, "a ROW of rule()", x -> x.rule(0, HOLD, 4));
        Check.finding(Homes::full, 1, "a TEXT", x -> x.fault(3));
        Check.finding(Homes::full, 1, "a RULE", x -> x.mark(5, NEXT));
        Check.finding(Homes::full, 2, "a place of a ROW", x -> x.at(0, 5));
        Check.finding(Homes::full, 2, "a place of a TEXT", x -> x.put(2, 0, 0));
        Check.finding(Homes::full, 2, "places of two ROWS", x -> x.copy(0, 0, 2, 0, 1));
        Check.finding(Homes::full, 3, "a RULE of another KIND", x -> x.mark(0, NEXT));
        Check.finding(() -> withRow(60, 0, 0), 3, "a number that is none, on()", x -> x.on(0));
        Check.finding(() -> withRow(0, 2), 3, "a number that is none, rule()", x -> x.rule(0, CARD, 0));
        Check.finding(Homes::full, 4, "shared among none", x -> x.mean(2));
        Check.finding(Homes::full, 5, "fewer than none, row()", x -> x.row(0, -1));
        Check.finding(Homes::full, 5, "fewer than none, text()", x -> x.text(0, -1));
        Check.finding(Homes::full, 5, "fewer than none, copy()", x -> x.copy(0, 0, 0, 0, -1));
        Check.finding(Homes::full, 5, "not as many as due, on()", x -> x.on(0));
        Check.finding(Homes::full, 5, "not as many as due, rule()", x -> x.rule(0, CARD, 0));
    }

    private static PaperRound withRow(int... values) {
        PaperRound x = Homes.full();
        Check.fill(x, 0, values);
        return x;
    }

    // ---- promise 36

    private static void asked() {
        Check.says(36, "What the latest lay(), at(), mean(), part(), reader(), want(), even(), twice() that was not refused (nor answered NONE) told;");
        Check.Made made = () -> {
            PaperRound x = of("p1p2:7r0-5(0*5=9)r1-5(0*4=8)r0-5(1*5=3)");
            Check.fill(x, 0, 44, 46);
            x.at(0, 0);
            return x;
        };
        told(made, "lay", 46, x -> x.lay(0, 1, 3));
        told(made, "at", 46, x -> x.at(0, 1));
        told(made, "mean", 45, x -> x.mean(0));
        told(made, "part", 7, x -> x.part(1, 1));
        told(made, "reader", 5, x -> x.reader(1, 1));
        told(made, "want", 4, x -> x.want(1, 2));
        told(made, "want, NONE told", NONE, x -> x.want(1, 4));
        told(made, "even", 11, PaperRound::even);
        told(made, "twice", 3, PaperRound::twice);
        PaperRound x = made.anew();
        x.lay(0, 0, BIG);
        Check.due("lay() tells what it was", x.asked(), 44);
        x.at(0, 0);
        Check.due("at() tells what it is", x.asked(), BIG);
        x.reader(2, 2);
        x.part(0, 0);
        Check.due("the latest of them", x.asked(), 1);
        Check.due("asked() again", x.asked(), 1);
        Check.says(36, "0 before.");
        Check.gives(Homes::none, 0, "asked()", PaperRound::asked);
        Check.gives(() -> of("p1r0-5(0*5=9)"), 0, "asked() of a HOUSE", PaperRound::asked);
        PaperRound refused = of("p1r0-5(0*5=9)");
        refused.at(0, 0);
        refused.part(1, 0);
        Check.due("asked() behind what was refused", refused.asked(), 0);
    }

    private static PaperRound of(String text) {
        return Check.house(text);
    }

    private static void told(Check.Made made, String what, int due, Check.Call call) {
        PaperRound x = made.anew();
        Check.isTrue(what + " is not refused", call.on(x) >= 0);
        Check.due(what + " told", x.asked(), due);
    }

    private static void askedStays() {
        Check.says(36, "that was not refused (nor answered NONE)");
        Check.Call[] others = {x -> x.row(1, 3), x -> x.tear(1), x -> x.copy(0, 0, 5, 0, 2), x -> x.text(1, 4), x -> x.put(0, 0, 32),
            x -> x.fault(0), x -> x.house(0), x -> x.copies(0, 2), x -> x.post(0, 3, 3), x -> x.late(0, 3, 4), x -> x.read(0, 7),
            PaperRound::judge, x -> x.missed(0), x -> x.who(0, 0), x -> x.can(0, 0), x -> x.image(1), x -> x.on(3),
            x -> x.rule(0, NEXT, 0), x -> x.mark(0, CARD), x -> x.run(0), x -> x.best(0), PaperRound::least, x -> x.mend(3),
            PaperRound::soon, PaperRound::bound, PaperRound::quarrel, PaperRound::asked, x -> x.count(3), PaperRound::finding,
            x -> x.findings(1), PaperRound::digest};
        for (int i = 0; i < others.length; i++) {
            PaperRound x = Homes.full();
            others[i].on(x);
            Check.due("asked() behind another call, " + i, x.asked(), 8);
        }
        Check.Call[] refused = {x -> x.lay(0, 5, 1), x -> x.lay(4, 0, 1), x -> x.lay(6, 0, 1), x -> x.at(0, 5), x -> x.at(4, 0), x -> x.at(-1, 0),
            x -> x.mean(2), x -> x.mean(4), x -> x.mean(6), x -> x.part(2, 0), x -> x.part(0, 3), x -> x.reader(2, 0), x -> x.reader(0, 4),
            x -> x.want(3, 0), x -> x.want(0, 6)};
        for (int i = 0; i < refused.length; i++) {
            PaperRound x = Homes.full();
            refused[i].on(x);
            Check.due("asked() behind what is refused, " + i, x.asked(), 8);
        }
        PaperRound spent = Homes.nine();
        spent.want(0, 4);
        spent.even();
        spent.twice();
        Check.due("asked() behind SPENT", spent.asked(), 59);
    }

    private static void askedOfNone() {
        Check.says(36, "(nor answered NONE) told;");
        PaperRound x = of("p2r0-5(0*5=9)");
        x.want(0, 2);
        Check.due("twice() answers NONE", x.twice(), NONE);
        Check.due("asked() behind it", x.asked(), 5);
        x.copies(0, 1);
        Check.due("twice() answers a PART", x.twice(), 0);
        Check.due("asked() behind it", x.asked(), 0);
    }

    // ---- promise 37

    private static void count(PaperRound x, String what, int... dues) {
        for (int i = 0; i < dues.length; i++) {
            Check.due(what + ", count(" + i + ")", x.count(i), dues[i]);
        }
    }

    private static void counts() {
        Check.says(37, "0 PARTS, 1 READERS, 2 WANTS, 3 LAST, 4 READINGS, 5 RULES, 6 CARDS (HOLDS, too), 7 ROWS, 8 TEXTS that are there.");
        count(new PaperRound(), "new", 0, 0, 0, 60, 0, 0, 0, 0, 0);
        count(Homes.full(), "full", 2, 2, 3, 40, 2, 5, 2, 5, 3);
        count(Homes.wrong(), "wrong", 2, 2, 3, 40, 2, 5, 2, 5, 3);
        count(Homes.nine(), "nine", 3, 3, 9, 60, 1, 0, 0, 1, 1);
        PaperRound x = Homes.full();
        x.read(2, 59);
        Check.due("a READING more", x.count(4), 3);
        x.read(2, 0);
        Check.due("a READING in minute 0", x.count(4), 3);
        x.read(0, NONE);
        Check.due("a READING less", x.count(4), 2);
        x.rule(5, HOLD, 1);
        Check.due("a RULE more", x.count(5), 6);
        Check.due("a CARD more", x.count(6), 3);
        x.rule(5, SHORT, 1);
        Check.due("as many RULES", x.count(5), 6);
        Check.due("a CARD less", x.count(6), 2);
        x.row(4, 0);
        Check.due("a ROW of none counts", x.count(7), 6);
        x.tear(5);
        Check.due("a ROW less", x.count(7), 5);
        x.text(3, 0);
        Check.due("a TEXT of none counts", x.count(8), 4);
        x.house(2);
        count(x, "a house anew", 0, 0, 0, 60, 0, 0, 0, 5, 4);
    }

    private static void countsOfMost() {
        Check.says(37, "that are there.");
        PaperRound x = of("m1p1p1p1p1p1p1r0-1(0*1=1)r0-1(1*1=1)r0-1(2*1=1)r0-1(3*1=1)r0-1(4*1=1)r0-1(5*1=1)r0-1(0*1=1)r0-1(5*1=1)");
        Check.fill(x, 0, 0, 1, 2, 3, 4, 5, 6, 7);
        for (int i = 0; i < 6; i++) {
            x.rule(i, i % 2 + 1, 0);
        }
        for (int i = 0; i < 6; i++) {
            x.row(i, 48);
        }
        for (int i = 0; i < 4; i++) {
            x.text(i, 120);
        }
        for (int w = 0; w < 8; w++) {
            x.read(w, 59);
        }
        count(x, "all that there can be", 6, 8, 8, 1, 8, 6, 6, 6, 4);
    }

    private static void countRefused() {
        Check.says(37, "BAD.");
        Check.range(Homes::full, "count(what)", 0, 8, PaperRound::count);
        Check.bad(Homes::full, "count(NONE)", x -> x.count(NONE));
    }

    // ---- promises 38 and 39

    private static void finding() {
        Check.says(38, "The latest FINDING (0 before any).");
        PaperRound x = new PaperRound();
        Check.due("before any", x.finding(), 0);
        x.at(6, 0);
        x.row(0, 49);
        x.judge();
        x.count(9);
        Check.due("before any, behind BAD", x.finding(), 0);
        x.row(0, -1);
        Check.due("SIZE", x.finding(), 5);
        x.at(0, 0);
        Check.due("NOTHING", x.finding(), 1);
        x.row(0, 0);
        Check.due("what is not refused leaves it", x.finding(), 1);
        x.at(0, 0);
        Check.due("BEYOND", x.finding(), 2);
        x.mean(0);
        Check.due("NOUGHT", x.finding(), 4);
        x.rule(0, NEXT, 0);
        x.mark(0, SHORT);
        Check.due("UNLIKE", x.finding(), 3);
        x.mark(0, 0);
        Check.due("BAD leaves it", x.finding(), 3);
        x.text(0, 1);
        x.put(0, 0, 'x');
        x.house(0);
        Check.due("STATE leaves it", x.finding(), 3);
        Check.due("finding() leaves it", x.finding(), 3);
    }

    private static void findings() {
        Check.says(39, "How often a FINDING (1 .. 5) was answered.");
        PaperRound x = new PaperRound();
        x.row(2, 0);
        x.rule(0, NEXT, 0);
        int[] times = {3, 0, 7, 1, 12};
        for (int n = 0; n < 12; n++) {
            askIf(n < times[0], x, y -> y.at(0, 0));
            askIf(n < times[1], x, y -> y.at(2, 0));
            askIf(n < times[2], x, y -> y.mark(0, SHORT));
            askIf(n < times[3], x, y -> y.mean(2));
            askIf(n < times[4], x, y -> y.row(0, -1));
            x.row(6, 0);
            x.row(1, 1);
        }
        for (int f = 1; f <= 5; f++) {
            Check.due("findings(" + f + ")", x.findings(f), times[f - 1]);
        }
        for (int n = 0; n < 300; n++) {
            x.at(2, 0);
        }
        Check.due("findings(2) behind 300 more", x.findings(2), 300);
        Check.due("findings(1) behind these", x.findings(1), 3);
    }

    private static void askIf(boolean asks, PaperRound x, Check.Call call) {
        if (asks) {
            Check.due("a FINDING", call.on(x), Check.FINDING);
        }
    }

    private static void findingsStay() {
        Check.says(39, "How often a FINDING (1 .. 5) was answered.");
        int[] due = {1, 1, 2, 1, 1};
        PaperRound x = Homes.full();
        x.house(0);
        x.least();
        x.tear(0);
        for (int f = 1; f <= 5; f++) {
            Check.due("findings(" + f + ") behind a house anew", x.findings(f), due[f - 1]);
        }
        PaperRound none = new PaperRound();
        for (int f = 1; f <= 5; f++) {
            Check.due("findings(" + f + ") of a new object", none.findings(f), 0);
        }
    }

    private static void findingsRefused() {
        Check.says(39, "BAD.");
        Check.range(Homes::full, "findings(f)", 1, 5, PaperRound::findings);
        Check.bad(Homes::full, "findings(0)", x -> x.findings(0));
        Check.bad(Homes::full, "findings(NONE)", x -> x.findings(NONE));
    }

    // ---- promise 40

    /** Begins with count() 0 to 8, as told. */
    private static long begun(PaperRound x) {
        long h = 17;
        for (int what = 0; what <= 8; what++) {
            h = 31 * h + x.count(what);
        }
        return h;
    }

    private static long on(long h, long... values) {
        long sum = h;
        for (long v : values) {
            sum = 31 * sum + v;
        }
        return sum;
    }

    private static long missing(long h, int n) {
        long sum = h;
        for (int i = 0; i < n; i++) {
            sum = 31 * sum - 1;
        }
        return sum;
    }

    private static void digestOfNew() {
        Check.says(40, "h = 17; then h = 31 h + v for each v");
        PaperRound x = new PaperRound();
        long h = on(17, 0, 0, 0, 60, 0, 0, 0, 0, 0);
        Check.due("digest() of a new object", x.digest(), missing(h, 16));
        Check.due("digest() again", x.digest(), missing(h, 16));
    }

    private static void digestOfEach() {
        Check.says(40, "count() 0 to 8; of each PART part() 0 to 2; of each READER reader() 0 to 3; of each WANT want() 0 to 5;");
        PaperRound x = of("m7 p2:3s4 p1 r1-9(!1*2=3,0*4=5) r0-60(0*20=9) n0/1@1");
        Check.plan(x, 59, NONE, 6);
        long h = on(17, 2, 2, 3, 7, 2, 0, 0, 0, 1);
        h = on(h, 2, 3, 4, 1, 0, 0);
        h = on(h, 1, 9, 3, 1, 0, 60, 4, 0);
        h = on(h, 0, 1, 2, 3, 59, 2, 0, 0, 4, 5, NONE, 0, 1, 0, 20, 9, 6, 0);
        h = missing(h, 12);
        String text = "m7 p2:3s4 p1 r1-9(!1*2=3,0*4=5) r0-60(0*20=9) n0/1@1";
        h = on(h, text.length());
        for (int i = 0; i < text.length(); i++) {
            h = on(h, text.charAt(i));
        }
        Check.due("digest()", x.digest(), missing(h, 3));
    }

    private static void digestOfHouse() {
        Check.says(40, "(of a call that tells by asked(): what it tells, not the 1 that it answers; asked() stays)");
        PaperRound x = Homes.full();
        Check.due("asked() ahead", x.asked(), 8);
        x.digest();
        Check.due("asked() behind digest()", x.asked(), 8);
        PaperRound y = of("p1r0-9(0*1=1)");
        long before = y.digest();
        Check.Call[] changes = {z -> z.copies(0, 2), z -> z.post(0, 1, 0), z -> z.post(0, 1, 1), z -> z.late(0, 1, 9), z -> z.late(0, 1, 60),
            z -> z.read(0, 0), z -> z.read(0, 1), z -> z.row(0, 0), z -> z.row(1, 1), z -> z.lay(1, 0, 1), z -> z.text(1, 0), z -> z.text(2, 1),
            z -> z.put(2, 0, 1), z -> z.rule(0, NEXT, 0), z -> z.rule(0, SHORT, 0), z -> z.rule(1, SHORT, 0), z -> z.tear(0)};
        for (int i = 0; i < changes.length; i++) {
            changes[i].on(y);
            Check.isTrue("digest() is another one behind change " + i, y.digest() != before);
            before = y.digest();
        }
    }

    private static void digestOfRules() {
        Check.says(40, "of each RULE (-1 once: missing) KIND, of a CARD (HOLD, too) its READERS;");
        PaperRound x = of("p1r0-9(0*1=1)r0-9(0*1=1)r0-9(0*1=1)");
        Check.fill(x, 0, 2, 0, 1);
        x.rule(0, CARD, 0);
        x.rule(2, HOLD, 0);
        for (int kind = NEXT; kind <= SHORT; kind++) {
            x.rule(kind, kind, 0);
        }
        x.rule(1, HOLD, 0);
        x.rule(1, NEXT, 0);
        x.tear(0);
        x.text(0, 0);
        long h = begun(x);
        h = on(h, 1, 0, 0);
        h = on(h, 0, 9, 1, 0, 0, 9, 2, 0, 0, 9, 4, 0);
        h = on(h, 0, 0, 1, 1, NONE, 0, 1, 0, 1, 1, NONE, 0, 2, 0, 1, 1, NONE, 0);
        h = on(h, 1, 2, 0, 1, 3, 2, 2, 0, 1, 3, 4, 5);
        h = missing(h, 6);
        h = on(h, 0);
        Check.due("digest()", x.digest(), missing(h, 3));
        PaperRound none = new PaperRound();
        none.row(1, 0);
        none.rule(5, HOLD, 1);
        none.rule(0, CARD, 1);
        Check.due("digest() of CARDS of none", none.digest(), missing(on(on(missing(on(begun(none), 1), 4), 2, -1), 0), 8));
    }

    private static void digestOfRows() {
        Check.says(40, "of each ROW its size (-1: missing) and places, of each TEXT likewise.");
        PaperRound x = new PaperRound();
        Check.fill(x, 1, MIN, MAX, -1, 0, 1);
        x.row(3, 0);
        Check.fill(x, 5, 9, 9, 9);
        x.row(5, 1);
        long h = missing(begun(x), 7);
        h = on(h, 5, MIN, MAX, -1, 0, 1, -1, 0, -1, 1, 0);
        Check.due("digest()", x.digest(), missing(h, 4));
        x.row(0, 48);
        x.row(2, 48);
        x.lay(2, 47, 6);
        h = missing(begun(x), 6);
        h = on(h, 48);
        h = on(h, new long[48]);
        h = on(h, 5, MIN, MAX, -1, 0, 1, 48);
        h = on(h, new long[47]);
        h = on(h, 6, 0, -1, 1, 0);
        Check.due("digest() of rows of 48", x.digest(), missing(h, 4));
    }

    private static void digestOfTexts() {
        Check.says(40, "of each TEXT likewise.");
        PaperRound x = new PaperRound();
        x.text(0, 0);
        x.text(2, 4);
        x.put(2, 0, -128);
        x.put(2, 1, 127);
        x.put(2, 2, 255);
        x.text(3, 120);
        x.put(3, 119, 0);
        long h = missing(begun(x), 12);
        h = on(h, 0, -1, 4, -128, 127, -1, 32, 120);
        for (int i = 0; i < 119; i++) {
            h = on(h, 32);
        }
        Check.due("digest()", x.digest(), on(h, 0));
    }

    private static void digestWraps() {
        Check.says(40, "then h = 31 h + v for each v");
        PaperRound x = new PaperRound();
        x.row(0, 48);
        for (int i = 0; i < 48; i++) {
            x.lay(0, i, i % 2 == 0 ? MAX : MIN);
        }
        long h = missing(begun(x), 6);
        h = on(h, 48);
        for (int i = 0; i < 48; i++) {
            h = on(h, i % 2 == 0 ? MAX : MIN);
        }
        Check.due("digest(), past what a long holds", x.digest(), missing(h, 9));
    }

    private static void digestChangesNothing() {
        Check.says(40, "asked() stays)");
        Check.Made[] states = {Homes::none, Homes::full, Homes::wrong, Homes::nine, Homes::seven};
        for (Check.Made made : states) {
            PaperRound x = made.anew();
            long first = x.digest();
            Check.due("digest() again", x.digest(), first);
            Check.due("digest() of a twin", made.anew().digest(), first);
            long[] got = Look.at(x);
            long[] due = Look.at(made.anew());
            for (int i = 0; i < due.length; i++) {
                Check.due("behind digest(), " + Look.nameOf(i), got[i], due[i]);
            }
        }
    }

    /** An object is used for 512 calls: the last of them answers as well as the first. */
    private static void fiveHundredCalls() {
        PaperRound x = Homes.nine();
        int calls = Homes.NINE_CALLS;
        for (int i = calls; i < 510; i++) {
            x.read(i % 9, i % 60);
        }
        Check.due("count(4), call 511", x.count(4), 9);
        PaperRound twin = Homes.nine();
        for (int i = 501; i < 510; i++) {
            twin.read(i % 9, i % 60);
        }
        Check.due("digest(), call 512", x.digest(), twin.digest());
    }
}
