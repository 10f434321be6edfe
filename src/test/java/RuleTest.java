/** Promises 25 to 28: rules, what they tell, the round by a rule, the best card. */
public final class RuleTest {
    private static final int NO = Check.NONE;
    private static final int CARD = 1, HOLD = 2, NEXT = 3, DEAR = 4, SHORT = 5;
    private static final String R = "p1 p1 r0-20(0*5=3,1*5=2) r0-20(0*3=9,1*2=1) r1-20(1*4=5)";

    public static void main(String[] args) {
        rule();
        mark();
        card();
        hold();
        holdGoesOn();
        next();
        dear();
        shortest();
        may();
        runRefused();
        best();
        bestRefused();
        Check.end();
    }

    private static void rule() {
        PaperRound x = Check.house(R);
        Check.fill(x, 1, 2, 0, 1);
        Check.due("rule(0, CARD, 1)", x.rule(0, CARD, 1), 1);
        Check.due("rule(5, SHORT, 99)", x.rule(5, SHORT, 99), 1);
        Check.due("rule(1, NEXT, -1)", x.rule(1, NEXT, -1), 1);
        Check.due("rule(2, DEAR, 5)", x.rule(2, DEAR, 5), 1);
        Check.due("rule(3, HOLD, 1)", x.rule(3, HOLD, 1), 1);
        Check.due("count(5)", x.count(5), 5);
        Check.due("count(6)", x.count(6), 2);
        x.lay(1, 0, 7);
        Check.due("the card is as the row was", x.mark(0, CARD), 2);
        int[][] bad = {{-1, CARD, 1}, {6, CARD, 1}, {0, 0, 1}, {0, 6, 1}, {0, -1, 1}, {0, CARD, -1}, {0, HOLD, 6}};
        for (int[] b : bad) {
            Check.refused(x, Check.BAD, "a bad rule", () -> x.rule(b[0], b[1], b[2]));
        }
        Check.refused(x, Check.FINDING, "rule, no row", () -> x.rule(0, HOLD, 4));
        Check.finds(x, Check.NOTHING, "rule, no row", () -> x.rule(0, CARD, 4));
        int[][] size = {{0, 1}, {0, 1, 2, 3}, {7, 7}, {}};
        for (int[] s : size) {
            Check.fill(x, 4, s);
            Check.finds(x, Check.SIZE, "rule, not as many", () -> x.rule(0, CARD, 4));
        }
        int[][] unlike = {{0, 1, 1}, {0, 1, 3}, {-1, 1, 2}, {0, 1, 32}, {0, 1, Integer.MIN_VALUE}};
        for (int[] u : unlike) {
            Check.fill(x, 4, u);
            Check.refused(x, Check.FINDING, "rule, not each once", () -> x.rule(0, CARD, 4));
            Check.finds(x, Check.UNLIKE, "rule, not each once", () -> x.rule(0, HOLD, 4));
        }
        Check.due("the old card stays", x.mark(0, CARD), 2);
        Check.due("rule anew", x.rule(0, NEXT, 4), 1);
        Check.due("it is no card now", x.count(6), 1);
    }

    private static void mark() {
        PaperRound x = Check.house(R);
        Check.fill(x, 0, 2, 0, 1);
        for (int kind = CARD; kind <= SHORT; kind++) {
            x.rule(kind, kind, 0);
        }
        Check.due("a card's first", x.mark(CARD, CARD), 2);
        Check.due("a hold's first", x.mark(HOLD, CARD), 2);
        Check.due("a hold's last", x.mark(HOLD, HOLD), 1);
        for (int is = CARD; is <= SHORT; is++) {
            markAs(is);
        }
        int[][] bad = {{-1, 1}, {6, 1}, {1, 0}, {1, 6}, {1, -1}, {0, 0}};
        for (int[] b : bad) {
            Check.refused(x, Check.BAD, "a bad mark", () -> x.mark(b[0], b[1]));
        }
        Check.finds(x, Check.NOTHING, "mark(0, 1)", () -> x.mark(0, 1));
        PaperRound one = Check.house("p1r0-9(0*1=1)");
        one.row(0, 1);
        one.rule(0, HOLD, 0);
        Check.due("a hold of one, its first", one.mark(0, CARD), 0);
        Check.due("a hold of one, its last", one.mark(0, HOLD), 0);
        PaperRound none = new PaperRound();
        none.row(0, 0);
        none.rule(0, CARD, 0);
        none.rule(1, HOLD, 0);
        Check.due("a card of none", none.mark(0, CARD), NO);
        Check.due("a hold of none, its first", none.mark(1, CARD), NO);
        Check.due("a hold of none, its last", none.mark(1, HOLD), NO);
        Check.due("asked() of none of these", none.asked(), 0);
    }

    private static void markAs(int is) {
        PaperRound x = Check.house(R);
        Check.fill(x, 0, 2, 0, 1);
        x.rule(is, is, 0);
        for (int asks = CARD; asks <= SHORT; asks++) {
            int kind = asks;
            if (is != asks && (is != HOLD || asks != CARD)) {
                Check.refused(x, Check.FINDING, "a " + is + " asked as a " + asks, () -> x.mark(is, kind));
                Check.finds(x, Check.UNLIKE, "a " + is + " asked as a " + asks, () -> x.mark(is, kind));
            } else if (is >= NEXT) {
                Check.due("mark of a " + is, x.mark(is, asks), is);
            }
        }
    }

    private static void ran(PaperRound x, String what, int kind, int missed, int[] card, int... begins) {
        Check.fill(x, 0, card);
        Check.due(what + ", rule", x.rule(0, kind, 0), 1);
        Check.due(what + ", run", x.run(0), missed);
        Check.begins(x, what, begins);
        Check.due(what + ", judge", x.judge(), NO);
    }

    private static void card() {
        PaperRound x = Check.house(R);
        x.read(0, 59);
        ran(x, "card 0 1 2", CARD, 0, new int[] {0, 1, 2}, 0, 6, 5, 0, 2);
        ran(x, "card 2 1 0", CARD, 0, new int[] {2, 1, 0}, 5, 0, 0, 9, 5);
    }

    private static void hold() {
        PaperRound x = Check.house(R);
        ran(x, "hold 0 1 2", HOLD, 16, new int[] {0, 1, 2}, 0, NO, NO, 0, NO);
        x.late(0, 0, 10);
        ran(x, "hold, who has read goes", HOLD, 2, new int[] {0, 1, 2}, 0, NO, 10, 0, 13);
    }

    private static void holdGoesOn() {
        PaperRound x = Check.house("p2p1 r0-30(0*2=1,1*2=1) r0-30(0*3=1) r0-30(0*4=1)");
        ran(x, "hold, free in the minute in which all is read", HOLD, 0, new int[] {0, 1, 2}, 0, 2, 0, 3);
        x.copies(0, 1);
        ran(x, "hold, kept while he reads another part", HOLD, 0, new int[] {0, 1, 2}, 0, 2, 4, 7);
        ran(x, "a card does not keep", CARD, 0, new int[] {0, 1, 2}, 0, 2, 2, 5);
    }

    private static void next() {
        PaperRound x = Check.house("p1p1p1 r0-40(0*5=1,1*5=1) r3-40(0*6=1) r1-40(0*4=1)");
        ran(x, "next", NEXT, 0, new int[] {}, 0, 5, 9, 5);
        ran(x, "a card instead", CARD, 0, new int[] {0, 1, 2}, 0, 5, 5, 11);
        PaperRound y = Check.house("p1p1:6 r0-40(0*5=1,1*5=1) r3-40(1*9=1)");
        ran(y, "next, since he ended", NEXT, 0, new int[] {}, 0, 15, 6);
        PaperRound z = Check.house("p1 r2-40(0*5=1) r2-40(0*5=1)");
        ran(z, "next, alike ones", NEXT, 0, new int[] {}, 2, 7);
    }

    private static void dear() {
        PaperRound x = Check.house(R);
        ran(x, "dear", DEAR, 0, new int[] {}, 5, 0, 0, 9, 5);
        PaperRound y = Check.house("p1s4p1r10-40(0*5=9,1*5=6)");
        ran(y, "dear, as it would be", DEAR, 4, new int[] {}, 15, 10);
        PaperRound z = Check.house("p1s9r10-40(0*5=9)r10-40(0*5=9)");
        ran(z, "dear, worth nothing", DEAR, 18, new int[] {}, 10, 15);
    }

    private static void shortest() {
        PaperRound x = Check.house(R);
        ran(x, "short", SHORT, 0, new int[] {}, 0, 6, 5, 0, 2);
        PaperRound y = Check.house("p1r0-40(0*5=1)r0-40(0*3=9)r0-40(0*3=1)");
        ran(y, "short, alike ones", SHORT, 0, new int[] {}, 6, 0, 3);
    }

    private static void may() {
        PaperRound order = Check.house("p1p1:9 r0-40(!1*3=1,0*3=1)");
        ran(order, "may, told order", CARD, 0, new int[] {0}, 9, 12);
        PaperRound cushion = Check.house("p1r0-40(0*5=1)c0@4-6c0@9-9c0@13-14");
        ran(cushion, "may, cushions", SHORT, 0, new int[] {}, 15);
        PaperRound after = Check.house("p1r0-40(0*5=1)r0-40(0*5=1)n1/0@0");
        ran(after, "may, not after", CARD, 1, new int[] {0, 1}, 0, NO);
        ran(after, "may, the other way round", CARD, 0, new int[] {1, 0}, 5, 0);
        after.copies(0, 2);
        ran(after, "may, in the same minute", CARD, 0, new int[] {0, 1}, 0, 0);
        PaperRound last = Check.house("m9p1r0-40(0*5=1)r0-40(0*4=1)r0-40(0*1=1)");
        ran(last, "may, LAST", CARD, 1, new int[] {0, 1, 2}, 0, 5, NO);
        last.late(0, 0, 4);
        ran(last, "may, till it ends", CARD, 1, new int[] {0, 1, 2}, NO, 0, 4);
    }

    private static void runRefused() {
        PaperRound x = Check.house(R);
        Check.refused(x, Check.BAD, "run(-1)", () -> x.run(-1));
        Check.refused(x, Check.BAD, "run(6)", () -> x.run(6));
        Check.refused(x, Check.FINDING, "run(0)", () -> x.run(0));
        Check.finds(x, Check.NOTHING, "run(0)", () -> x.run(0));
    }

    private static void best() {
        PaperRound x = Check.house("p1r0-10(0*6=2)r0-10(0*6=9)");
        x.read(0, 7);
        x.row(3, 20);
        Check.due("best(3)", x.best(3), 2);
        Check.holds(x, "best", 3, 1, 0);
        Check.begins(x, "the plan stays", 7, NO);
        PaperRound y = Check.house(R);
        Check.due("best, the first of alike ones", y.best(0), 0);
        Check.holds(y, "best, the first of alike ones", 0, 0, 1, 2);
        PaperRound z = Check.house("p1" + "r0-6(0*1=1)".repeat(5) + "r0-1(0*1=9)");
        Check.due("best, six", z.best(1), 0);
        Check.holds(z, "best, six", 1, 5, 0, 1, 2, 3, 4);
        z.late(0, 0, 5);
        z.late(4, 0, 2);
        Check.due("best, six again", z.best(1), 0);
        Check.holds(z, "best, six again", 1, 5, 4, 0, 1, 2, 3);
        PaperRound none = new PaperRound();
        Check.due("best of none", none.best(2), 0);
        Check.holds(none, "best of none", 2);
    }

    private static void bestRefused() {
        PaperRound x = Check.house("p1" + "r0-9(0*1=1)".repeat(7));
        x.row(0, 2);
        Check.refused(x, Check.SPENT, "best of seven", () -> x.best(0));
        Check.refused(x, Check.BAD, "best(6)", () -> x.best(6));
        Check.refused(x, Check.BAD, "best(-1)", () -> x.best(-1));
    }
}
