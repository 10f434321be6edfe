import java.util.Arrays;

/** Promises 25 to 28, when a WANT MAY begin, and the RULES, sentence by sentence. */
public final class EdgeRuleTest {
    private static final int NONE = Check.NONE;
    private static final int CARD = 1, HOLD = 2, NEXT = 3, DEAR = 4, SHORT = 5;
    private static final String EIGHT = "p1" + "r0-60(0*1=1)".repeat(8);

    public static void main(String[] args) {
        readerIsIn();
        readsNothing();
        partHasCome();
        copyIsFree();
        cushion();
        toldOrder();
        notAfter();
        minuteByMinute();
        rulesThere();
        card();
        hold();
        holdTillHeGoes();
        holdOfTheLastPart();
        next();
        dear();
        shortest();
        rule();
        ruleRefused();
        ruleOrder();
        mark();
        markOfNone();
        markRefused();
        run();
        runsInTurn();
        runRefused();
        best();
        bestComesToARow();
        bestRefused();
        Check.end();
    }

    private static PaperRound of(String text) {
        return Check.house(text);
    }

    private static int[] upTo(int n) {
        int[] card = new int[n];
        for (int i = 0; i < n; i++) {
            card[i] = i;
        }
        return card;
    }

    private static void ran(PaperRound x, int kind, int[] card, int... begins) {
        Check.fill(x, 0, card);
        String what = "kind " + kind + " " + Arrays.toString(card);
        Check.due(what + ", rule", x.rule(0, kind, 0), 1);
        int missed = x.run(0);
        Check.begins(x, what, begins);
        Check.due(what + ", MISSED", missed, x.missed(NONE));
        Check.due(what + ", it goes", x.judge(), NONE);
    }

    /** By each kind of rule the same comes. */
    private static void all(String text, int... begins) {
        PaperRound x = of(text);
        for (int kind = CARD; kind <= SHORT; kind++) {
            ran(x, kind, upTo(x.count(1)), begins);
        }
    }

    // ---- terms 3: when a want may begin

    private static void readerIsIn() {
        Check.terms(3, "A WANT MAY begin in minute t (the PLAN till then being as it is), if its READER is in, and is till it ends, which is not behind LAST;");
        all("p1r20-30(0*5=9)", 20);
        all("p1r20-25(0*5=9)", 20);
        all("p1r20-24(0*5=9)", NONE);
        all("p1r59-60(0*1=9)", 59);
        all("p1r59-60(0*2=9)", NONE);
        all("p1r0-1(0*1=9)", 0);
        all("m25p1r20-60(0*5=9)", 20);
        all("m24p1r20-60(0*5=9)", NONE);
        all("m20p1r20-60(0*1=9)", NONE);
        all("m21p1r20-60(0*1=9)", 20);
        all("m20p1r0-60(0*20=9)", 0);
        all("m19p1r0-60(0*20=9)", NONE);
    }

    private static void readsNothing() {
        Check.terms(3, "he reads nothing;");
        all("p1p1r0-60(0*5=9,1*5=9)", 0, 5);
        all("p1p1r0-10(0*5=9,1*5=9)", 0, 5);
        all("p1p1r0-9(0*5=9,1*5=9)", 0, NONE);
        all("p1p1:3r0-60(0*5=9,1*5=9)", 0, 5);
        all("p1p1:5r0-60(0*5=9,1*5=9)", 0, 5);
        all("p1p1:6r0-60(0*5=9,1*5=9)", 0, 6);
        all("p2p2r0-60(0*5=9,1*5=9)r0-60(0*5=9)", 0, 5, 0);
    }

    private static void partHasCome() {
        Check.terms(3, "the PART has come,");
        all("p1:20r0-60(0*5=9)", 20);
        all("p1:20r0-25(0*5=9)", 20);
        all("p1:20r0-24(0*5=9)", NONE);
        all("p1:59r0-60(0*1=9)", 59);
        all("p1:20r30-60(0*5=9)", 30);
    }

    private static void copyIsFree() {
        Check.terms(3, "a COPY is free,");
        all("p1r0-60(0*5=9)r0-60(0*5=9)r0-60(0*5=9)", 0, 5, 10);
        all("p2r0-60(0*5=9)r0-60(0*5=9)r0-60(0*5=9)", 0, 0, 5);
        all("p1r0-60(0*5=9)r0-9(0*5=9)", 0, NONE);
        all("p1r0-60(0*5=9)r0-10(0*5=9)", 0, 5);
        all("p2r0-60(0*5=9)r2-60(0*9=9)r4-60(0*10=9)r6-60(0*11=9)", 0, 2, 5, 11);
    }

    private static void cushion() {
        Check.terms(3, "and it lies under no CUSHION as long;");
        all("p1r0-60(0*5=9)c0@5-9", 0);
        all("p1r0-60(0*5=9)c0@4-9", 10);
        all("p1r0-60(0*5=9)c0@0-0", 1);
        all("p1r0-60(0*5=9)c0@4-6c0@12-12", 7);
        all("p1r0-60(0*5=9)c0@4-6c0@11-11", 12);
        all("p1r0-60(0*5=9)c0@0-54", 55);
        all("p1r0-60(0*5=9)c0@0-55", NONE);
        all("p1r0-60(0*5=9)c0@0-54c0@60-60", 55);
        all("p1p1r0-60(0*5=9)c1@0-60", 0);
    }

    private static void toldOrder() {
        Check.terms(3, "all ahead of it are read, if told order;");
        all("p1p1:9r0-60(!1*5=9,0*5=9)", 9, 14);
        all("p1p1:9r0-60(1*5=9,0*5=9)", 9, 0);
        all("p1p1:9r0-13(!1*5=9,0*3=9)", NONE, NONE);
        all("p1p1p1r0-60(!2*5=9,0*5=9,1*5=9)", 0, 5, 10);
        all("p1p1p1r0-12(!2*5=9,0*8=9,1*2=9)", 0, NONE, NONE);
    }

    private static void notAfter() {
        Check.terms(3, "and none AFTER whom it is not wanted began it in an earlier minute.");
        all("p2r0-60(0*5=9)r0-60(0*5=9)n1/0@0", 0, 0);
        all("p2r0-60(0*5=9)r1-60(0*5=9)n1/0@0", 0, NONE);
        all("p1r0-60(0*5=9)r0-60(0*5=9)n1/0@0", 0, NONE);
        all("p1r0-60(0*5=9)r0-60(0*5=9)n0/1@0", 0, 5);
        all("p1p1r0-60(0*5=9)r0-60(1*5=9,0*5=9)n1/0@1", 0, 0, 5);
        all("p1p1r0-60(1*5=9)r3-60(0*5=9)n1/0@0", 0, 3);
        all("p2r0-60(0*5=9)r0-60(0*5=9)r2-60(0*5=9)n2/1@0", 0, 0, NONE);
    }

    // ---- terms 3: the rules

    private static void minuteByMinute() {
        Check.terms(3, "By a RULE, minute by minute from 0 to LAST less 1, again and again till none MAY begin:");
        all("m1p1r0-60(0*1=9)", 0);
        all("m60p1:59r0-60(0*1=9)", 59);
        all("m59p1:59r0-60(0*1=9)", NONE);
        all("p2p2p2r0-9(0*1=9)r0-9(0*1=9)r0-9(1*1=9)r0-9(1*1=9)r0-9(2*1=9)r0-9(2*1=9)", 0, 0, 0, 0, 0, 0);
        all("p1p1p1p1p1p1r0-6(0*1=9,1*1=9,2*1=9,3*1=9,4*1=9,5*1=9)", 0, 1, 2, 3, 4, 5);
        all("", new int[0]);
        all("p1p2", new int[0]);
    }

    private static void rulesThere() {
        Check.terms(3, "RULES 0 .. 5 (missing at first) are of KINDS: 0 RULE, 1 CARD (a RULE: a ROW of all READERS, each once), 2 HOLD (a CARD), 3 NEXT, 4 DEAR, 5 SHORT (a RULE each).");
        PaperRound x = of("p1r0-60(0*5=9)r0-60(0*5=9)");
        Check.fill(x, 0, 1, 0);
        for (int k = 0; k < 6; k++) {
            int n = k;
            Check.finds(x, Check.NOTHING, "run(" + k + ") at first", () -> x.run(n));
            for (int kind = CARD; kind <= SHORT; kind++) {
                Check.due("rule(" + k + ", " + kind + ", 0)", x.rule(k, kind, 0), 1);
                Check.due("mark(" + k + ", " + kind + ")", x.mark(k, kind), kind == CARD ? 1 : kind == HOLD ? 0 : kind);
                Check.due("run(" + k + ")", x.run(k), 0);
            }
        }
        Check.due("RULES", x.count(5), 6);
    }

    private static void card() {
        Check.terms(3, "CARD: the first READER of the ROW of whose WANTS one MAY begin; he begins the first such.");
        PaperRound x = of("p1p1r0-60(0*5=1,1*5=1)r0-60(0*5=9,1*5=9)r2-60(1*1=9)");
        ran(x, CARD, new int[] {0, 1, 2}, 0, 5, 5, 0, 10);
        ran(x, CARD, new int[] {1, 0, 2}, 5, 0, 0, 5, 10);
        ran(x, CARD, new int[] {2, 0, 1}, 0, 6, 5, 0, 5);
        ran(x, CARD, new int[] {2, 1, 0}, 5, 0, 0, 6, 5);
        PaperRound last = of(EIGHT);
        ran(last, CARD, new int[] {7, 6, 5, 4, 3, 2, 1, 0}, 7, 6, 5, 4, 3, 2, 1, 0);
        ran(last, CARD, new int[] {3, 0, 7, 1, 5, 2, 6, 4}, 1, 3, 5, 0, 7, 4, 6, 2);
    }

    private static void hold() {
        Check.terms(3, "HOLD: likewise, but who has read keeps that COPY till all his WANTS are read, or he goes (it is free in that minute).");
        PaperRound x = of("p1p1r0-60(0*5=1,1*5=1)r0-60(0*5=9)r0-60(1*3=9)");
        ran(x, HOLD, new int[] {0, 1, 2}, 0, 5, 10, 0);
        ran(x, CARD, new int[] {0, 1, 2}, 0, 5, 5, 0);
        ran(x, HOLD, new int[] {1, 2, 0}, 8, 3, 0, 0);
        ran(x, HOLD, new int[] {2, 0, 1}, 0, 5, 10, 0);
        x.copies(0, 2);
        ran(x, HOLD, new int[] {0, 1, 2}, 0, 5, 0, 0);
        PaperRound three = of("p1p1p1r0-60(!0*5=1,1*5=1,2*5=1)r0-60(0*1=9,1*1=9,2*1=9)");
        ran(three, HOLD, new int[] {0, 1}, 0, NONE, NONE, NONE, 0, 1);
        ran(three, HOLD, new int[] {1, 0}, 3, 8, 13, 0, 1, 2);
        PaperRound order = of("p1p1r0-60(0*5=1,1*5=1)r0-60(1*5=9,0*5=9)");
        ran(order, HOLD, new int[] {0, 1}, 0, NONE, 0, NONE);
        ran(order, CARD, new int[] {0, 1}, 0, 5, 0, 5);
    }

    private static void holdTillHeGoes() {
        Check.terms(3, "or he goes (it is free in that minute).");
        PaperRound x = of("p1p1:50r0-20(0*5=1,1*5=1)r0-60(0*5=9)");
        ran(x, HOLD, new int[] {0, 1}, 0, NONE, 20);
        x.late(0, 0, 5);
        ran(x, HOLD, new int[] {0, 1}, 0, NONE, 5);
        x.late(0, 0, 55);
        ran(x, HOLD, new int[] {0, 1}, 0, 50, 55);
        x.late(0, 0, 60);
        ran(x, HOLD, new int[] {0, 1}, 0, 50, 55);
        x.late(0, 0, 54);
        ran(x, HOLD, new int[] {0, 1}, 0, NONE, 54);
        x.late(0, 0, 56);
        x.late(1, 0, 59);
        ran(x, HOLD, new int[] {0, 1}, 0, 50, NONE);
        PaperRound one = of("p1r0-60(0*5=9)r0-60(0*5=9)");
        ran(one, HOLD, new int[] {0, 1}, 0, 5);
        PaperRound two = of("p2p1:40r0-30(0*5=1,1*5=1)r0-20(0*5=9,1*5=9)r0-60(0*5=9)");
        ran(two, HOLD, new int[] {0, 1, 2}, 0, NONE, 0, NONE, 20);
    }

    private static void holdOfTheLastPart() {
        Check.terms(3, "keeps that COPY till all his WANTS are read,");
        for (int p = 0; p < 6; p++) {
            String parts = "p1".repeat(p) + "p2" + "p1".repeat(5 - p);
            String wants = "r0-60(" + p + "*5=9)";
            PaperRound x = of(parts + wants.repeat(5));
            ran(x, HOLD, upTo(5), 0, 0, 5, 5, 10);
            int q = (p + 1) % 6;
            PaperRound two = of(parts + "r0-60(" + p + "*5=9," + q + "*5=9)" + wants.repeat(3));
            ran(two, HOLD, upTo(4), 0, 5, 0, 5, 10);
        }
    }

    private static void next() {
        Check.terms(3, "NEXT: the READER of whose WANTS one MAY begin, who has waited longest (since he came, or since his last READING ended; of alike ones the first), begins the first such.");
        // Reader 1 came in minute 2, reader 2 in minute 1; both wait for the copy, free in minute 5.
        PaperRound x = of("p1r0-60(0*5=1)r2-60(0*5=1)r1-60(0*5=1)");
        ran(x, NEXT, new int[0], 0, 10, 5);
        x.late(2, 2, 60);
        ran(x, NEXT, new int[0], 0, 5, 10);
        x.late(2, 3, 60);
        ran(x, NEXT, new int[0], 0, 5, 10);
        x.late(0, 3, 60);
        x.late(1, 4, 60);
        ran(x, NEXT, new int[0], 3, 13, 8);
        // Part 1 comes when all wait: reader 0 since minute 5, when he ended; reader 1 since he came.
        PaperRound y = of("p1p1:9r0-60(0*5=1,1*5=1)r4-60(1*5=1)");
        ran(y, NEXT, new int[0], 0, 14, 9);
        y.late(1, 5, 60);
        ran(y, NEXT, new int[0], 0, 9, 14);
        y.late(1, 6, 60);
        ran(y, NEXT, new int[0], 0, 9, 14);
        // The last reading's end counts, not the first one's.
        PaperRound z = of("p1p1p1:9r0-60(0*2=1,1*5=1,2*5=1)r6-60(2*5=1)");
        ran(z, NEXT, new int[0], 0, 2, 14, 9);
        z.late(1, 7, 60);
        ran(z, NEXT, new int[0], 0, 2, 9, 14);
        Check.terms(3, "begins the first such.");
        PaperRound first = of("p1p1r0-60(1*5=1,0*5=9)");
        ran(first, NEXT, new int[0], 0, 5);
        PaperRound eight = of(EIGHT);
        ran(eight, NEXT, new int[0], 0, 1, 2, 3, 4, 5, 6, 7);
        eight.late(0, 1, 60);
        ran(eight, NEXT, new int[0], 7, 0, 1, 2, 3, 4, 5, 6);
    }

    private static void dear() {
        Check.terms(3, "DEAR: the WANT that MAY begin with the greatest WORTH as it would be (of alike ones the first).");
        PaperRound x = of("p1r0-60(0*5=4)r0-60(0*5=6)r0-60(0*5=5)");
        ran(x, DEAR, new int[0], 10, 0, 5);
        PaperRound alike = of("p1r0-60(0*5=4)r0-60(0*5=4)r0-60(0*5=5)");
        ran(alike, DEAR, new int[0], 5, 10, 0);
        // Worth 9 less 4 in minute 10: 5, less than the other's 6; alike if it is 5.
        PaperRound y = of("p1s4p1r10-60(0*5=9,1*5=6)");
        ran(y, DEAR, new int[0], 15, 10);
        y.post(0, 0, 3);
        ran(y, DEAR, new int[0], 10, 15);
        y.post(0, 0, 2);
        ran(y, DEAR, new int[0], 10, 15);
        y.post(0, 0, 4);
        y.late(0, 9, 60);
        ran(y, DEAR, new int[0], 9, 14);
        PaperRound none = of("p1s9p1s9r10-60(0*5=9,1*5=6)r10-60(1*1=9)");
        ran(none, DEAR, new int[0], 10, 15, 10);
        PaperRound two = of("p2r0-60(0*5=1)r0-60(0*5=1)r0-60(0*5=1)r0-60(0*5=2)");
        ran(two, DEAR, new int[0], 0, 5, 5, 0);
    }

    private static void shortest() {
        Check.terms(3, "SHORT: that of the fewest minutes (likewise).");
        PaperRound x = of("p1r0-60(0*5=9)r0-60(0*3=1)r0-60(0*4=1)");
        ran(x, SHORT, new int[0], 7, 0, 3);
        PaperRound alike = of("p1r0-60(0*5=1)r0-60(0*5=9)r0-60(0*4=1)");
        ran(alike, SHORT, new int[0], 4, 9, 0);
        PaperRound y = of("p1p1r0-60(0*20=9,1*1=1)r1-60(0*2=1)");
        ran(y, SHORT, new int[0], 3, 0, 1);
        PaperRound most = of("p1r0-60(0*20=9)r0-60(0*19=1)");
        ran(most, SHORT, new int[0], 19, 0);
    }

    // ---- promise 25

    private static void rule() {
        Check.says(25, "A RULE (anew) of a KIND (1 .. 5), a CARD (HOLD, too) by a ROW as it is then (else not looked at): 1.");
        PaperRound x = Homes.full();
        Check.due("CARDS", x.count(6), 2);
        Check.due("RULES", x.count(5), 5);
        Check.due("a HOLD made a NEXT", x.rule(1, NEXT, 0), 1);
        Check.due("CARDS", x.count(6), 1);
        Check.due("RULES", x.count(5), 5);
        Check.due("a NEXT made a HOLD", x.rule(1, HOLD, 1), 1);
        Check.due("CARDS", x.count(6), 2);
        x.lay(1, 0, 0);
        x.lay(1, 1, 1);
        Check.due("a CARD as the ROW was", x.mark(0, CARD), 1);
        Check.due("a HOLD as the ROW was", x.mark(1, HOLD), 0);
        Check.due("rule(0, CARD, 1) anew", x.rule(0, CARD, 1), 1);
        Check.due("a CARD as the ROW is", x.mark(0, CARD), 0);
        x.tear(1);
        Check.due("a CARD whose ROW is torn", x.mark(0, CARD), 0);
        Check.due("a HOLD whose ROW is torn", x.mark(1, HOLD), 0);
        for (int kind = NEXT; kind <= SHORT; kind++) {
            for (int r : new int[] {0, 2, 4, 5, -1, 6, NONE, Check.MIN, Check.MAX}) {
                PaperRound y = Homes.full();
                Check.due("rule(5, " + kind + ", " + r + ")", y.rule(5, kind, r), 1);
                Check.due("mark(5, " + kind + ")", y.mark(5, kind), kind);
                Check.due("finding() stays", y.finding(), Homes.full().finding());
            }
        }
        PaperRound none = new PaperRound();
        none.row(0, 0);
        Check.due("a CARD of no READERS", none.rule(0, CARD, 0), 1);
        Check.due("a HOLD of no READERS", none.rule(5, HOLD, 0), 1);
        Check.due("run(0) of no READERS", none.run(0), 0);
        Check.due("run(5) of no READERS", none.run(5), 0);
    }

    private static void ruleRefused() {
        Check.says(25, "BAD; NOTHING: the ROW; SIZE: not as many as READERS; UNLIKE: not each once.");
        Check.range(Homes::full, "rule(k, NEXT, 0)", 0, 5, (x, k) -> x.rule(k, NEXT, 0));
        Check.range(Homes::full, "rule(k, CARD, 1)", 0, 5, (x, k) -> x.rule(k, CARD, 1));
        Check.range(Homes::full, "rule(0, kind, 1)", 1, 5, (x, kind) -> x.rule(0, kind, 1));
        Check.range(Homes::full, "rule(5, CARD, r)", 0, 5, (x, r) -> x.rule(5, CARD, r));
        Check.range(Homes::full, "rule(0, HOLD, r)", 0, 5, (x, r) -> x.rule(0, HOLD, r));
        for (int kind = CARD; kind <= HOLD; kind++) {
            int is = kind;
            Check.finding(Homes::full, Check.NOTHING, "a missing ROW", x -> x.rule(0, is, 4));
            Check.finding(Homes::full, Check.SIZE, "a ROW of none", x -> x.rule(0, is, 2));
            Check.finding(Homes::full, Check.SIZE, "a ROW of 48", x -> x.rule(5, is, 5));
            Check.finding(() -> withRow(0), Check.SIZE, "one too few", x -> x.rule(0, is, 0));
            Check.finding(() -> withRow(0, 1, 2), Check.SIZE, "one too many", x -> x.rule(0, is, 0));
            int[][] rows = {{0, 0}, {1, 1}, {0, 2}, {2, 0}, {-1, 0}, {0, -1}, {0, 32}, {0, 33}, {32, 1}, {1, 64}, {NONE, 1},
                {Check.MIN, 0}, {0, Check.MIN}, {Check.MAX, 1}, {257, 0}};
            for (int[] row : rows) {
                Check.finding(() -> withRow(row), Check.UNLIKE, "unlike " + Arrays.toString(row), x -> x.rule(1, is, 0));
            }
        }
        Check.gives(() -> withRow(0, 1), 1, "each once", x -> x.rule(0, CARD, 0));
        Check.gives(() -> withRow(1, 0), 1, "each once", x -> x.rule(0, HOLD, 0));
    }

    private static PaperRound withRow(int... values) {
        PaperRound x = Homes.full();
        Check.fill(x, 0, values);
        return x;
    }

    private static void ruleOrder() {
        Check.says(25, "(In this order.)");
        for (int k : new int[] {-1, 6, Check.MAX}) {
            Check.bad(Homes::full, "BAD RULE ahead of NOTHING", x -> x.rule(k, CARD, 4));
            Check.bad(Homes::full, "BAD RULE ahead of SIZE", x -> x.rule(k, HOLD, 2));
            Check.bad(() -> withRow(1, 1), "BAD RULE ahead of UNLIKE", x -> x.rule(k, CARD, 0));
            Check.bad(Homes::full, "BAD RULE of NEXT", x -> x.rule(k, NEXT, 0));
        }
        for (int kind : new int[] {0, -1, 6, NONE}) {
            Check.bad(Homes::full, "BAD KIND ahead of NOTHING", x -> x.rule(0, kind, 4));
            Check.bad(Homes::full, "BAD KIND ahead of SIZE", x -> x.rule(0, kind, 2));
            Check.bad(() -> withRow(1, 1), "BAD KIND ahead of UNLIKE", x -> x.rule(0, kind, 0));
        }
        Check.bad(Homes::full, "BAD ROW", x -> x.rule(0, CARD, 6));
        Check.bad(Homes::full, "BAD ROW", x -> x.rule(0, HOLD, -1));
        Check.finding(() -> withRow(7), Check.SIZE, "SIZE ahead of UNLIKE, too few", x -> x.rule(0, CARD, 0));
        Check.finding(() -> withRow(0, 0, 0), Check.SIZE, "SIZE ahead of UNLIKE, too many", x -> x.rule(0, HOLD, 0));
        Check.finding(() -> withRow(-1, 7, 9), Check.SIZE, "SIZE ahead of UNLIKE, no READERS", x -> x.rule(0, HOLD, 0));
    }

    // ---- promise 26

    private static void mark() {
        Check.says(26, "What a RULE that IS of a KIND tells: asked as a CARD (a HOLD, too) its first READER, asked as a HOLD its last one (NONE of both: there are none), a NEXT, DEAR, SHORT its KIND.");
        PaperRound x = of("p1r0-9(0*1=1)r0-9(0*1=1)r0-9(0*1=1)");
        int[][] cards = {{0, 1, 2}, {0, 2, 1}, {1, 0, 2}, {1, 2, 0}, {2, 0, 1}, {2, 1, 0}};
        for (int[] card : cards) {
            Check.fill(x, 3, card);
            x.rule(2, CARD, 3);
            x.rule(4, HOLD, 3);
            Check.due("a CARD's first", x.mark(2, CARD), card[0]);
            Check.due("a HOLD's first", x.mark(4, CARD), card[0]);
            Check.due("a HOLD's last", x.mark(4, HOLD), card[2]);
        }
        PaperRound eight = of(EIGHT);
        Check.fill(eight, 0, 7, 1, 2, 3, 4, 5, 6, 0);
        eight.rule(0, HOLD, 0);
        Check.due("the first of eight", eight.mark(0, CARD), 7);
        Check.due("the last of eight", eight.mark(0, HOLD), 0);
        for (int kind = NEXT; kind <= SHORT; kind++) {
            PaperRound y = Homes.full();
            Check.due("mark of a " + kind, y.mark(kind - 1, kind), kind);
            Check.due("asked() stays", y.asked(), Homes.full().asked());
        }
        PaperRound one = of("p1r0-9(0*1=1)");
        one.row(0, 1);
        one.rule(0, HOLD, 0);
        Check.due("the first of one", one.mark(0, CARD), 0);
        Check.due("the last of one", one.mark(0, HOLD), 0);
    }

    private static PaperRound rulesOfNone() {
        PaperRound x = new PaperRound();
        x.row(0, 0);
        x.rule(0, CARD, 0);
        x.rule(1, HOLD, 0);
        x.rule(2, NEXT, 0);
        return x;
    }

    private static void markOfNone() {
        Check.says(26, "(NONE of both: there are none)");
        Check.gives(EdgeRuleTest::rulesOfNone, NONE, "a CARD of none", x -> x.mark(0, CARD));
        Check.gives(EdgeRuleTest::rulesOfNone, NONE, "a HOLD of none, as a CARD", x -> x.mark(1, CARD));
        Check.gives(EdgeRuleTest::rulesOfNone, NONE, "a HOLD of none", x -> x.mark(1, HOLD));
        Check.gives(EdgeRuleTest::rulesOfNone, NEXT, "a NEXT of none", x -> x.mark(2, NEXT));
        Check.finding(EdgeRuleTest::rulesOfNone, Check.UNLIKE, "a CARD of none, as a HOLD", x -> x.mark(0, HOLD));
        PaperRound x = rulesOfNone();
        x.mark(1, HOLD);
        Check.due("NONE is no FINDING", x.finding(), 0);
    }

    private static void markRefused() {
        Check.says(26, "BAD: also KIND 0; NOTHING; UNLIKE.");
        Check.range(Homes::full, "mark(k, CARD)", 0, 5, (x, k) -> x.mark(k, CARD));
        Check.range(Homes::full, "mark(0, kind)", 1, 5, (x, kind) -> x.mark(0, kind));
        for (int k = 0; k < 6; k++) {
            int n = k;
            Check.bad(Homes::full, "mark(" + k + ", 0)", x -> x.mark(n, 0));
        }
        Check.bad(Homes::full, "mark(5, 0), BAD ahead of NOTHING", x -> x.mark(5, 0));
        Check.bad(Homes::full, "mark(5, 6), BAD ahead of NOTHING", x -> x.mark(5, 6));
        Check.bad(Homes::full, "mark(6, 1)", x -> x.mark(6, 1));
        for (int kind = CARD; kind <= SHORT; kind++) {
            int asks = kind;
            Check.finding(Homes::full, Check.NOTHING, "mark(5, " + kind + ")", x -> x.mark(5, asks));
            for (int is = CARD; is <= SHORT; is++) {
                int k = is - 1;
                if (is != asks && (is != HOLD || asks != CARD)) {
                    Check.finding(Homes::full, Check.UNLIKE, "a " + is + " asked as a " + asks, x -> x.mark(k, asks));
                }
            }
        }
        Check.terms(0, "3 UNLIKE (a RULE of another KIND; a number that is none)");
        Check.finding(Homes::full, Check.UNLIKE, "a CARD asked as a HOLD", x -> x.mark(0, HOLD));
    }

    // ---- promise 27

    private static void run() {
        Check.says(27, "The PLAN becomes what comes by a RULE from a PLAN without READINGS: MISSED.");
        int[] missed = new int[5];
        for (int k = 0; k < 5; k++) {
            PaperRound x = Homes.full();
            missed[k] = x.run(k);
            Check.due("MISSED behind run(" + k + ")", x.missed(NONE), missed[k]);
            long behind = x.digest();
            PaperRound y = Homes.wrong();
            Check.due("run(" + k + ") from a PLAN that does not go", y.run(k), missed[k]);
            y.read(1, x.want(1, 4) == 1 ? x.asked() : NONE);
            Check.due("the same comes", y.digest(), behind);
            Check.due("run(" + k + ") again", x.run(k), missed[k]);
            Check.due("the same comes again", x.digest(), behind);
            Check.due("asked() stays", y.asked(), Homes.full().asked());
        }
        PaperRound x = of("p1r0-20(0*5=3)r0-20(0*5=4)");
        Check.fill(x, 0, 1, 0);
        x.rule(3, CARD, 0);
        x.read(0, 59);
        Check.due("run(3)", x.run(3), 0);
        Check.begins(x, "run(3)", 5, 0);
        x.late(0, 0, 9);
        Check.due("run(3), the house changed", x.run(3), 3);
        Check.begins(x, "run(3), the house changed", NONE, 0);
        x.post(0, 3, 0);
        x.copies(0, 2);
        Check.due("run(3), the house changed again", x.run(3), 0);
        Check.begins(x, "run(3), the house changed again", 3, 3);
    }

    private static PaperRound withRules(String text) {
        PaperRound x = of(text);
        int[][] cards = {{0, 1, 2}, {2, 1, 0}, {1, 0, 2}};
        for (int k = 0; k < 3; k++) {
            Check.fill(x, 0, cards[k]);
            x.rule(2 * k, CARD, 0);
            x.rule(2 * k + 1, HOLD, 0);
        }
        x.rule(4, NEXT, 0);
        return x;
    }

    /** What one run leaves does not come into the next. */
    private static void runsInTurn() {
        Check.says(27, "The PLAN becomes what comes by a RULE from a PLAN without READINGS: MISSED.");
        String[] texts = {"p2r0-60(0*5=1)r0-60(0*5=2)r0-60(0*5=3)", "p1p2r0-30(0*5=1,1*9=4)r2-60(1*5=2,0*3=2)r0-60(1*5=3)",
            "p2p1r0-20(!1*5=1,0*5=1)r0-60(0*5=2,1*2=1)r9-60(0*5=3,1*9=9)"};
        for (String text : texts) {
            for (int first = 0; first < 6; first++) {
                for (int k = 0; k < 6; k++) {
                    PaperRound x = withRules(text);
                    x.run(first);
                    x.run(5 - first);
                    PaperRound anew = withRules(text);
                    Check.due("run(" + k + ") behind others of " + text, x.run(k), anew.run(k));
                    Check.due("digest() behind it", x.digest(), anew.digest());
                }
            }
        }
    }

    private static void runRefused() {
        Check.says(27, "BAD; NOTHING.");
        Check.range(Homes::full, "run(k)", 0, 5, (x, k) -> x.run(k));
        Check.finding(Homes::full, Check.NOTHING, "run(5)", x -> x.run(5));
        Check.finding(Homes::wrong, Check.NOTHING, "run(5), the plan does not go", x -> x.run(5));
        Check.finding(Homes::none, Check.NOTHING, "run(0)", x -> x.run(0));
    }

    // ---- promise 28

    private static void bestIs(String text, int missed, int... card) {
        PaperRound x = of(text);
        Check.due("best of " + text, x.best(0), missed);
        Check.holds(x, "best of " + text, 0, card);
        Check.due("a CARD by it", x.rule(0, CARD, 0), 1);
        Check.due("MISSED by it", x.run(0), missed);
    }

    private static void best() {
        Check.says(28, "Of all CARDS of READERS (6 at most; else SPENT) the one by which least is MISSED, the first by places' READERS,");
        bestIs("", 0);
        bestIs("p1r0-9(0*5=4)", 0, 0);
        bestIs("p1r0-9(0*10=4)", 4, 0);
        bestIs("p1r0-5(0*5=4)r0-5(0*5=4)", 4, 0, 1);
        bestIs("p1r0-5(0*5=4)r0-5(0*5=5)", 4, 1, 0);
        bestIs("p1r0-9(0*1=1)r0-9(0*1=1)r0-9(0*1=1)r0-9(0*1=1)r0-9(0*1=1)r0-9(0*1=1)", 0, 0, 1, 2, 3, 4, 5);
        bestIs("p1r0-6(0*1=1)r0-5(0*1=1)r0-4(0*1=1)r0-3(0*1=1)r0-2(0*1=1)r0-1(0*1=1)", 0, 5, 4, 3, 2, 1, 0);
        bestIs("p1r0-5(0*5=4)r0-5(0*5=3)r0-5(0*5=9)r0-5(0*5=9)", 16, 2, 0, 1, 3);
        bestIs("p1r0-10(0*5=4)r0-10(0*5=3)r0-10(0*5=9)r0-10(0*5=9)", 7, 2, 3, 0, 1);
        // By CARDS, not by HOLDS: reader 0 does not keep the part that he has read.
        bestIs("p1p1r0-60(0*5=1,1*5=1)r0-8(0*3=9)", 0, 0, 1);
        PaperRound again = of("p1r0-5(0*5=4)r0-5(0*5=3)r0-5(0*5=9)r0-5(0*5=9)");
        for (int n = 0; n < 3; n++) {
            Check.due("best again", again.best(n), 16);
            Check.holds(again, "best again", n, 2, 0, 1, 3);
        }
        Check.write(again, 1, "p1r0-5(0*5=4)r0-5(0*5=5)");
        again.house(1);
        Check.due("best of fewer READERS", again.best(0), 4);
        Check.holds(again, "best of fewer READERS", 0, 1, 0);
        Check.says(28, "(The PLAN stays.)");
        PaperRound x = of("p1r0-5(0*5=4)r0-5(0*5=5)");
        Check.plan(x, 59, NONE);
        x.best(0);
        Check.begins(x, "the PLAN", 59, NONE);
        PaperRound y = of("p1r0-5(0*5=4)r0-5(0*5=5)");
        Check.fill(y, 0, 0, 1);
        y.rule(0, CARD, 0);
        y.rule(1, NEXT, 0);
        y.best(0);
        Check.due("RULES stay", y.mark(0, CARD), 0);
        Check.due("RULES stay there", y.count(5), 2);
        Check.due("asked() is not told by best()", y.asked(), 0);
    }

    private static void bestComesToARow() {
        Check.says(28, "comes to a ROW (anew): MISSED.");
        for (int r = 0; r < 6; r++) {
            PaperRound x = Homes.full();
            x.late(0, 10, 30);
            int there = x.count(7);
            Check.due("best(" + r + ")", x.best(r), 10);
            Check.holds(x, "best(" + r + ")", r, 1, 0);
            Check.due("ROWS", x.count(7), r == 4 ? there + 1 : there);
        }
        PaperRound none = new PaperRound();
        none.row(3, 7);
        Check.due("best(3) of no READERS", none.best(3), 0);
        Check.holds(none, "best(3) of no READERS", 3);
        Check.due("ROWS", none.count(7), 1);
        PaperRound noParts = of("p1p2");
        Check.due("best(5) of no READERS, but PARTS", noParts.best(5), 0);
        Check.holds(noParts, "best(5) of no READERS, but PARTS", 5);
    }

    private static void bestRefused() {
        Check.says(28, "BAD; SPENT.");
        Check.range(Homes::full, "best(r)", 0, 5, (x, r) -> x.best(r));
        for (int r = 0; r < 6; r++) {
            int n = r;
            Check.refuses(Homes::seven, Check.SPENT, "best(" + r + ") of seven READERS", x -> x.best(n));
            Check.refuses(() -> of(EIGHT), Check.SPENT, "best(" + r + ") of eight READERS", x -> x.best(n));
        }
        for (int r : new int[] {-1, 6, NONE}) {
            Check.bad(Homes::seven, "best(" + r + "), BAD ahead of SPENT", x -> x.best(r));
        }
        Check.gives(() -> of("p1p1p1p1p1p1r0-9(0*1=1,1*1=1,2*1=1,3*1=1,4*1=1,5*1=1)r0-9(0*1=1,1*1=1,2*1=1,3*1=1)"), 0,
            "ten WANTS of two READERS are not too many", x -> x.best(0));
    }
}
