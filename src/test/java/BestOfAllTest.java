/** Promises 29 to 35: the best of all sequences, and what else they tell. */
public final class BestOfAllTest {
    private static final int NO = Check.NONE;
    private static final String NINE = "p1p1p1" + "r0-60(0*1=1,1*1=1,2*1=1)".repeat(3);

    public static void main(String[] args) {
        least();
        leastPlacing();
        leastOfEight();
        mend();
        mendKeeps();
        mendRefused();
        soon();
        even();
        bound();
        quarrel();
        twice();
        spent();
        Check.end();
    }

    private static void least(String house, int missed, int... begins) {
        PaperRound x = Check.house(house);
        Check.due("least of " + house, x.least(), missed);
        Check.begins(x, "least of " + house, begins);
        Check.due("missed behind least", x.missed(NO), missed);
        Check.due("judge behind least", x.judge(), NO);
    }

    private static void least() {
        least("p1r0-10(0*6=2)r0-10(0*6=9)", 2, NO, 0);
        least("p1r0-10(0*6=5)r0-10(0*6=5)", 5, 0, NO);
        least("p1:10s9r0-60(0*5=9)", 9, NO);
        least("p1:10s9p1r0-60(0*5=9)r0-60(1*5=3)", 9, 10, 0);
        least("p1s1r0-60(0*10=9)r0-60(0*10=9)r0-60(0*10=5)", 3, 0, 10, 20);
        PaperRound x = Check.house("p1r0-10(0*6=2)r0-10(0*6=9)");
        x.read(0, 59);
        x.read(1, 59);
        x.least();
        Check.begins(x, "all readings are new", NO, 0);
    }

    private static void leastPlacing() {
        least("m9p1r0-60(0*9=1)", 0, 0);
        least("m9p1r0-60(0*10=1)", 1, NO);
        least("p1:7r3-12(0*5=1)", 0, 7);
        least("p1r3-12(0*5=1)c0@4-6", 0, 7);
        least("p1r3-12(0*5=1)c0@4-7", 1, NO);
        least("p1p1r0-60(!1*5=1,0*3=1)", 0, 0, 5);
        least("p2r0-60(0*5=1)r0-60(0*7=1)r0-60(0*3=1)r0-60(0*3=1)", 0, 0, 0, 5, 7);
        least("p1r0-60(0*5=3)r0-60(0*5=9)n1/0@0", 0, 5, 0);
        // The second to be placed waits for the first, who does not want it after him.
        least("p2r6-60(0*5=3)r0-60(0*5=9)n0/1@0", 0, 6, 6);
        least("p2r6-60(0*5=3)r0-10(0*5=9)n0/1@0", 3, NO, 0);
        least("p2r6-12(0*5=9)r6-12(0*5=9)n0/1@0", 0, 6, 6);
        least("p2r0-60(0*5=9)r0-3(0*3=9)r9-60(0*5=9)n1/0@0n2/1@0", 9, 0, 0, NO);
    }

    private static void leastOfEight() {
        least("p1" + "r0-16(0*2=1)".repeat(8), 0, 0, 2, 4, 6, 8, 10, 12, 14);
        least("p2" + "r0-11(0*3=2)".repeat(8), 4, 0, 0, 3, 3, 6, 6, NO, NO);
    }

    private static void mended(PaperRound x, int t, int missed, int... begins) {
        Check.due("mend(" + t + ")", x.mend(t), missed);
        Check.begins(x, "mend(" + t + ")", begins);
        Check.due("judge behind mend", x.judge(), NO);
    }

    private static void mend() {
        PaperRound x = Check.house("p1s1r0-60(0*10=9)r0-60(0*10=9)r0-60(0*10=5)");
        x.read(2, 0);
        mended(x, 1, 3, 10, 20, 0);
        mended(x, 0, 3, 0, 10, 20);
        x.read(2, NO);
        mended(x, 12, 3, 0, 10, 20);
        mended(x, 30, 3, 0, 10, 20);
        x.read(2, NO);
        mended(x, 30, 4, 0, 10, 30);
        x.read(2, NO);
        mended(x, 59, 6, 0, 10, NO);
        mended(x, 20, 3, 0, 10, 20);
    }

    private static void mendKeeps() {
        PaperRound copies = Check.house("p2r0-60(0*9=1)r0-60(0*4=1)r0-60(0*3=1)r0-60(0*2=1)");
        copies.read(0, 0);
        copies.read(1, 1);
        mended(copies, 2, 0, 0, 1, 5, 8);
        PaperRound order = Check.house("p1p1r0-60(!0*5=1,1*5=1)r0-60(1*9=1)");
        order.read(0, 3);
        mended(order, 4, 0, 3, 8, 13);
        PaperRound after = Check.house("p1r0-60(0*5=1)r0-60(0*5=9)n1/0@0");
        after.read(0, 3);
        mended(after, 4, 9, 3, NO);
        mended(after, 3, 0, 8, 3);
        PaperRound zero = Check.house("p1s9r0-60(0*5=9)");
        mended(zero, 10, 9, NO);
    }

    private static void mendRefused() {
        PaperRound x = Check.house(NINE);
        Check.refused(x, Check.SPENT, "mend(1), nine", () -> x.mend(1));
        x.read(0, 0);
        Check.refused(x, Check.SPENT, "mend(0), nine", () -> x.mend(0));
        for (int t : new int[] {-1, 60, NO}) {
            Check.refused(x, Check.BAD, "mend(" + t + ")", () -> x.mend(t));
        }
        Check.due("mend(1), eight and one that stays", x.mend(1), 0);
        x.read(0, 59);
        x.read(1, 59);
        Check.refused(x, Check.STATE, "mend, it does not go", () -> x.mend(0));
        Check.refused(x, Check.BAD, "mend, it does not go, and bad", () -> x.mend(60));
    }

    private static void soon() {
        PaperRound x = Check.house("p1r0-30(0*5=1)r3-30(0*7=1)");
        x.read(0, 4);
        Check.due("soon", x.soon(), 12);
        x.late(1, 3, 11);
        Check.due("soon, the other way round", x.soon(), 15);
        x.late(0, 0, 14);
        Check.due("soon, never", x.soon(), NO);
        Check.begins(x, "the plan stays", 4, NO);
        Check.due("soon of none", new PaperRound().soon(), 0);
        Check.due("soon, worth does not count", Check.house("p1:10s9r0-60(0*5=9)").soon(), 15);
        Check.due("soon, two parts", Check.house("p1p1r0-60(0*5=1,1*9=1)r0-60(0*5=1)").soon(), 14);
    }

    private static void even() {
        PaperRound x = Check.house("p1r0-10(0*10=9)r0-10(0*10=8)");
        x.read(0, 4);
        Check.told(x, "even less 7", x.even() - 7, 8);
        PaperRound y = Check.house("p1r0-10(0*10=9)r0-10(0*5=5)r0-10(0*5=5)");
        Check.told(y, "even less 4", y.even() - 4, 10);
        Check.due("least of the same", y.least(), 9);
        Check.begins(x, "the plan stays", 4, NO);
        PaperRound none = new PaperRound();
        Check.due("even of none", none.even(), 0);
        Check.due("even of none, asked()", none.asked(), 0);
        PaperRound z = Check.house("p1p1p1r0-9(0*9=5)r0-9(0*9=5)r0-9(1*9=4)r0-9(2*9=3)");
        Check.told(z, "even, the first such less 4", z.even() - 4, 17);
    }

    private static void bound() {
        Check.due("bound, alone", Check.house("p1r0-10(0*10=9)r0-10(0*5=5)r0-10(0*5=5)").bound(), 9);
        PaperRound two = Check.house("p1p1r0-10(0*10=9,1*10=8)");
        Check.due("bound, two parts", two.bound(), 0);
        Check.due("least, two parts", two.least(), 8);
        PaperRound order = Check.house("p1:5p1r0-10(!0*6=9,1*5=8)");
        Check.due("bound, orders not looked at", order.bound(), 9);
        Check.due("least, orders looked at", order.least(), 17);
        PaperRound after = Check.house("p1r0-30(0*5=9)r6-30(0*5=9)n1/0@0");
        Check.due("bound, not after", after.bound(), 0);
        after.late(0, 0, 10);
        after.read(0, 2);
        Check.due("bound, never after", after.bound(), 9);
        Check.begins(after, "the plan stays", 2, NO);
        Check.due("bound of nine", Check.house(NINE).bound(), 0);
        Check.due("bound of none", new PaperRound().bound(), 0);
        Check.due("bound, both parts", Check.house("p1p1r0-5(0*6=9,1*6=8)r0-5(1*5=1)").bound(), 17);
    }

    private static void quarrel() {
        PaperRound x = Check.house("p1" + "r0-10(0*5=9)".repeat(4));
        Check.due("quarrel of four", x.quarrel(), 14);
        x.late(1, 0, 4);
        x.read(0, 4);
        Check.due("quarrel, one alone can't", x.quarrel(), 2);
        Check.begins(x, "the plan stays", 4, NO, NO, NO);
        x.late(1, 0, 10);
        x.copies(0, 2);
        Check.due("quarrel, all can", x.quarrel(), NO);
        Check.due("quarrel of none", new PaperRound().quarrel(), NO);
        PaperRound y = Check.house("p1p1r0-5(0*5=1)r0-5(1*3=1)r0-5(0*1=1)r0-5(1*3=1)");
        Check.due("quarrel, two of them: the later ones stay", y.quarrel(), 10);
        PaperRound z = Check.house("p1p1r0-9(!0*5=1,1*5=1)r0-5(1*3=1)");
        Check.due("quarrel, told order within", z.quarrel(), 1);
    }

    private static void twice() {
        PaperRound x = Check.house("p1p1r0-10(0*10=9,1*5=1)r0-10(0*10=8)r0-10(1*10=3)");
        x.read(0, 4);
        Check.due("twice", x.twice(), 0);
        Check.due("twice, asked()", x.asked(), 1);
        Check.told(x, "part(0, 0)", x.part(0, 0), 1);
        x.copies(0, 2);
        Check.due("twice, just the other", x.twice(), 1);
        x.copies(1, 2);
        x.part(1, 0);
        Check.due("twice, none", x.twice(), NO);
        Check.due("twice, none, asked()", x.asked(), 2);
        Check.begins(x, "the plan stays", 4, NO, NO, NO);
        PaperRound y = Check.house("p1p1r0-9(0*1=1,1*1=1)");
        Check.due("twice, alike ones", y.twice(), 0);
        PaperRound z = Check.house("p1p1r0-9(1*9=1)r0-9(1*9=1)");
        Check.due("twice, the second", z.twice(), 1);
        Check.due("twice without parts", new PaperRound().twice(), NO);
    }

    private static void spent() {
        PaperRound x = Check.house(NINE);
        Check.refused(x, Check.SPENT, "least of nine", () -> x.least());
        Check.refused(x, Check.SPENT, "soon of nine", () -> x.soon());
        Check.refused(x, Check.SPENT, "even of nine", () -> x.even());
        Check.refused(x, Check.SPENT, "quarrel of nine", () -> x.quarrel());
        Check.refused(x, Check.SPENT, "twice of nine", () -> x.twice());
        for (int p = 0; p < 3; p++) {
            x.copies(p, 2);
        }
        Check.refused(x, Check.SPENT, "twice of nine ahead of NONE", () -> x.twice());
    }
}
