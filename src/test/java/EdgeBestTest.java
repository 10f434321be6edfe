/** Promises 29 to 35, SEQUENCES and the BEST, sentence by sentence. */
public final class EdgeBestTest {
    private static final int NONE = Check.NONE;
    private static final String EIGHT = "p1" + "r0-60(0*1=1)".repeat(8);
    private static final String NINE = "p1p1p1" + "r0-60(0*1=1,1*1=1,2*1=1)".repeat(3);

    public static void main(String[] args) {
        unlikeWants();
        comings();
        readersEnd();
        copysEnd();
        cushion();
        goesAndLast();
        toldOrder();
        notAfter();
        noSuchMinute();
        rowsInOrder();
        bestOfAll();
        searchesInTurn();
        spent();
        spentAhead();
        fromMinuteOn();
        keptCopies();
        placedBehind();
        least();
        mend();
        mendRefused();
        soon();
        even();
        evenFirst();
        bound();
        boundStays();
        quarrel();
        quarrelOrder();
        twice();
        twiceNone();
        Check.end();
    }

    private static PaperRound of(String text) {
        return Check.house(text);
    }

    private static void least(String text, int missed, int... begins) {
        PaperRound x = of(text);
        Check.due("least of " + text, x.least(), missed);
        Check.begins(x, "least of " + text, begins);
        Check.due("READINGS of " + text + " go", x.judge(), NONE);
        Check.due("MISSED of " + text, x.missed(NONE), missed);
    }

    private static void mended(PaperRound x, int t, int missed, int... begins) {
        Check.due("mend(" + t + ")", x.mend(t), missed);
        Check.begins(x, "mend(" + t + ")", begins);
        Check.due("mend(" + t + "), it goes", x.judge(), NONE);
        Check.due("mend(" + t + "), MISSED", x.missed(NONE), missed);
    }

    private static PaperRound planned(String text, int... begins) {
        PaperRound x = of(text);
        Check.plan(x, begins);
        return x;
    }

    // ---- terms 4: sequences

    private static void unlikeWants() {
        Check.terms(4, "A SEQUENCE is a row of unlike WANTS.");
        least("p2r0-60(0*5=9)", 0, 0);
        least("p2r0-60(0*5=9)r0-60(0*5=9)", 0, 0, 0);
        Check.due("soon of one WANT", of("p2r0-60(0*5=9)").soon(), 5);
    }

    private static void comings() {
        Check.terms(4, "Each, placed behind those ahead of it in the row, begins in the least minute t in which it can: not ahead of its READER's and its PART's coming,");
        least("p1r0-60(0*5=9)", 0, 0);
        least("p1r7-60(0*5=9)", 0, 7);
        least("p1:9r7-60(0*5=9)", 0, 9);
        least("p1:7r9-60(0*5=9)", 0, 9);
        least("p1:59r0-60(0*1=9)", 0, 59);
        least("p1r59-60(0*1=9)", 0, 59);
        least("p1:59r0-60(0*2=9)", 9, NONE);
    }

    private static void readersEnd() {
        Check.terms(4, "of the end of all READINGS of that READER,");
        least("p1p1r0-60(0*5=9,1*5=9)", 0, 0, 5);
        // Rows come by numbers: want 0 is placed first, though part 1 could be read ahead of it.
        least("p1:30p1r0-60(0*5=9,1*5=9)", 0, 30, 35);
        least("p1:30p1r0-40(0*5=9,1*5=9)", 0, 30, 35);
        least("p1:30p1r0-39(0*5=9,1*5=9)", 0, 30, 0);
        least("p1:30p1p1r0-60(0*5=9,1*5=9,2*20=9)", 0, 30, 35, 40);
        least("p1:31p1p1r0-60(0*5=9,1*5=9,2*20=9)", 0, 31, 0, 36);
    }

    private static void copysEnd() {
        Check.terms(4, "of the end of that COPY that ends first (of alike ones COPY 0; it has it);");
        least("p1r0-60(0*5=9)r0-60(0*5=9)", 0, 0, 5);
        least("p1r30-60(0*5=9)r0-60(0*5=9)", 0, 30, 35);
        least("p1r30-60(0*5=9)r0-39(0*5=9)", 0, 30, 0);
        least("p1r30-60(0*5=9)r0-40(0*5=9)", 0, 30, 35);
        least("p2r30-60(0*5=9)r0-60(0*5=9)r0-60(0*5=9)", 0, 30, 0, 5);
        least("p2r0-60(0*9=9)r0-60(0*4=9)r0-60(0*3=9)r0-60(0*5=9)r0-60(0*1=9)", 0, 0, 0, 4, 7, 9);
        least("p2r30-60(0*5=9)r20-60(0*5=9)r0-60(0*1=9)", 0, 30, 20, 25);
        least("p2r20-60(0*5=9)r30-60(0*5=9)r0-60(0*1=9)", 0, 20, 30, 25);
    }

    private static void cushion() {
        Check.terms(4, "no CUSHION as long;");
        least("p1r0-60(0*5=9)c0@5-9", 0, 0);
        least("p1r0-60(0*5=9)c0@4-9", 0, 10);
        least("p1r0-60(0*5=9)c0@0-0", 0, 1);
        least("p1r0-60(0*5=9)c0@4-6c0@12-12", 0, 7);
        least("p1r0-60(0*5=9)c0@4-6c0@11-11", 0, 12);
        least("p1r0-60(0*5=9)c0@0-54", 0, 55);
        least("p1r0-60(0*5=9)c0@0-55", 9, NONE);
        least("p1p1r0-60(0*5=9)c1@0-60", 0, 0);
    }

    private static void goesAndLast() {
        Check.terms(4, "t and its minutes no more than when he goes, and LAST;");
        least("p1r20-25(0*5=9)", 0, 20);
        least("p1r20-24(0*5=9)", 9, NONE);
        least("m25p1r20-60(0*5=9)", 0, 20);
        least("m24p1r20-60(0*5=9)", 9, NONE);
        least("m1p1r0-60(0*1=9)", 0, 0);
        least("m1p1r1-60(0*1=9)", 9, NONE);
        least("p1r40-60(0*20=9)", 0, 40);
        least("p1r41-60(0*20=9)", 9, NONE);
    }

    private static void toldOrder() {
        Check.terms(4, "all ahead of it are in the row ahead of it, if told order;");
        least("p1:9p1r0-60(!0*5=9,1*5=9)", 0, 9, 14);
        least("p1:9p1r0-18(!0*5=9,1*5=5)", 5, 9, NONE);
        least("p1:9p1r0-18(0*5=9,1*5=5)", 0, 9, 0);
        least("p1:9p1r0-13(!0*5=1,1*5=9)", 10, NONE, NONE);
        least("p1p1p1r0-9(!0*5=1,1*5=9,2*1=9)", 18, 0, NONE, NONE);
        least("p1p1p1r0-9(0*5=1,1*5=9,2*1=9)", 1, NONE, 0, 5);
        mended(of("p1:9p1r0-18(!0*5=9,1*5=5)"), 0, 5, 9, NONE);
        mended(of("p1:9p1r0-18(0*5=9,1*5=5)"), 0, 0, 9, 0);
        Check.due("soon, told order", of("p1:9p1r0-18(!0*5=9,1*5=5)").soon(), NONE);
        Check.due("soon, no told order", of("p1:9p1r0-18(0*5=9,1*5=5)").soon(), 14);
        Check.due("soon, told order, in time", of("p1:9p1r0-19(!0*5=9,1*5=5)").soon(), 19);
        Check.due("even, told order", of("p1:9p1r0-18(!0*5=9,1*5=5)").even(), 5);
        Check.due("even, no told order", of("p1:9p1r0-18(0*5=9,1*5=5)").even(), 0);
        Check.due("quarrel, told order", of("p1:9p1r0-18(!0*5=9,1*5=5)").quarrel(), 1);
        Check.due("quarrel, no told order", of("p1:9p1r0-18(0*5=9,1*5=5)").quarrel(), NONE);
        PaperRound twice = of("p1:9p1r0-18(!0*5=9,1*5=5)");
        Check.due("twice, told order", twice.twice(), 0);
        Check.due("twice, told order, asked()", twice.asked(), 5);
    }

    private static void notAfter() {
        Check.terms(4, "of all READINGS of that PART in the row none by one AFTER whom it is not wanted began ahead of t, and none that is not wanted AFTER its READER begins behind t.");
        least("p2r0-60(0*5=9)r0-60(0*5=9)n1/0@0", 0, 0, 0);
        least("p2r0-60(0*5=9)r1-60(0*5=9)n1/0@0", 0, 1, 1);
        least("p2r0-5(0*5=5)r1-60(0*5=9)n1/0@0", 5, NONE, 1);
        least("p2r1-60(0*5=9)r0-60(0*5=9)n1/0@0", 0, 1, 0);
        least("p2r1-60(0*5=9)r0-60(0*5=9)n0/1@0", 0, 1, 1);
        least("p2r1-60(0*5=9)r0-5(0*5=5)n0/1@0", 5, 1, NONE);
        least("p2r1-60(0*5=9)r0-5(0*5=5)n0/1@0n0/1@0", 5, 1, NONE);
        least("p1r0-60(0*5=9)r0-60(0*5=9)n1/0@0", 0, 5, 0);
        least("p1r0-60(0*5=9)r0-60(0*5=9)n0/1@0", 0, 0, 5);
        least("p1r0-60(0*5=9)r0-60(0*5=9)n0/1@0n1/0@0", 9, 0, NONE);
        least("p2r0-60(0*5=9)r0-60(0*5=9)n0/1@0n1/0@0", 0, 0, 0);
        least("p2r3-60(0*5=9)r0-60(0*5=9)n0/1@0n1/0@0", 0, 3, 3);
        least("p1p1r0-60(1*5=9)r0-5(0*5=9)n1/0@0", 0, 0, 0);
    }

    private static void noSuchMinute() {
        Check.terms(4, "If there is no such minute, that row is no SEQUENCE, nor are longer ones.");
        least("p1r0-5(0*6=9)", 9, NONE);
        least("p1r0-5(0*6=9)r0-5(0*5=1)", 9, NONE, 0);
        least("p1r0-5(0*5=1)r0-5(0*5=9)r0-5(0*5=5)", 6, NONE, 0, NONE);
        Check.due("soon, one has none", of("p1r0-5(0*6=9)r0-5(0*5=1)").soon(), NONE);
    }

    private static void rowsInOrder() {
        Check.terms(4, "By their WANTS' numbers rows come one behind the other (a row ahead of longer ones with it).");
        // Of the rows of two that miss as little, 0 1 comes first.
        least("p1r0-10(0*5=3)r0-10(0*5=3)r0-10(0*5=3)", 3, 0, 5, NONE);
        least("p1r0-10(0*5=3)r0-5(0*5=3)r0-10(0*5=3)", 3, 0, NONE, 5);
        least("p1r5-10(0*5=3)r0-5(0*5=3)r0-10(0*5=3)", 3, 5, 0, NONE);
        least("p1r0-60(0*5=3)r0-60(0*5=3)r0-60(0*5=3)", 0, 0, 5, 10);
        // A row ahead of longer ones: what is worth nothing is left out behind, not ahead.
        least("p1s9p1r10-60(0*5=9)r0-60(1*5=3)", 9, 10, 0);
        least("p1s9p1r0-60(1*5=3)r10-60(0*5=9)", 9, 0, NONE);
        least("p1s9r10-60(0*5=9)", 9, NONE);
        least("p1s9r10-60(0*5=9)r10-60(0*5=9)", 18, NONE, NONE);
    }

    private static void bestOfAll() {
        Check.terms(4, "BEST: the least MISSED by any SEQUENCE, the first one.");
        least("", 0);
        least("p1p2", 0);
        least("p1r0-10(0*6=2)r0-10(0*6=9)", 2, NONE, 0);
        least("p1r0-10(0*6=9)r0-10(0*6=2)", 2, 0, NONE);
        least("p1r0-10(0*6=5)r0-10(0*6=5)", 5, 0, NONE);
        least("p1r0-10(0*10=9)r0-10(0*5=5)r0-10(0*5=5)", 9, NONE, 0, 5);
        least("p1r0-10(0*10=9)r0-10(0*5=5)r0-10(0*5=4)", 9, 0, NONE, NONE);
        least("p1s4r0-60(0*5=5)r0-60(0*10=9)", 0, 0, 5);
        least("p1s4r0-60(0*5=5)r0-60(0*9=9)r0-60(0*9=9)", 4, 0, 5, 14);
        least("p1s4r0-60(0*10=5)r0-60(0*10=9)", 4, 0, 10);
        least("p1s5r0-60(0*10=4)r0-60(0*10=9)", 4, NONE, 0);
    }

    /** What one search leaves does not come into the next; nor do READINGS that stayed by mend(). */
    private static void searchesInTurn() {
        Check.terms(4, "BEST: the least MISSED by any SEQUENCE, the first one.");
        String text = "p1p2s1r0-60(0*20=9,1*5=5)r0-40(0*9=7,1*20=6)r3-30(1*8=8,0*5=5)";
        for (int t = 0; t < 60; t += 7) {
            Check.Made goes = () -> planned(text, 0, 33, 20, NONE, 3, NONE);
            PaperRound x = goes.anew();
            x.image(0);
            x.mend(t);
            x.mend(59);
            x.on(0);
            PaperRound anew = goes.anew();
            anew.image(0);
            long[] got = Look.at(x);
            long[] due = Look.at(anew);
            for (int i = 0; i < due.length; i++) {
                Check.due("behind mend(" + t + "), " + Look.nameOf(i), got[i], due[i]);
            }
        }
        for (int p = 0; p < 6; p++) {
            PaperRound x = of("p1".repeat(p) + "p2" + "p1".repeat(5 - p) + ("r0-20(" + p + "*5=5)").repeat(7) + "r0-5(" + p + "*5=5)");
            Check.plan(x, NONE, NONE, NONE, NONE, NONE, NONE, 0, 0);
            Check.due("mend(1), two of eight stay", x.mend(1), 0);
            Check.due("least() behind it", x.least(), 0);
            Check.begins(x, "least() behind it", 0, 5, 5, 10, 10, 15, 15, 0);
        }
        for (int first = 0; first < 7; first++) {
            for (int next = 0; next < 7; next++) {
                PaperRound x = of(text);
                search(x, first);
                PaperRound anew = of(text);
                Check.due("search " + next + " behind search " + first, search(x, next), search(anew, next));
            }
        }
    }

    private static int search(PaperRound x, int which) {
        switch (which) {
            case 0: return x.least();
            case 1: return x.soon();
            case 2: return x.even() * 1000 + x.asked();
            case 3: return x.bound();
            case 4: return x.quarrel();
            case 5: return x.twice() * 1000 + x.asked();
            default: return x.mend(0);
        }
    }

    private static void spent() {
        Check.terms(4, "SPENT, if more than 8 WANTS are to be placed");
        Check.gives(() -> of(EIGHT), 0, "least() of eight", PaperRound::least);
        Check.gives(() -> of(EIGHT), 0, "mend(0) of eight", x -> x.mend(0));
        Check.gives(() -> of(EIGHT), 8, "soon() of eight", PaperRound::soon);
        Check.gives(() -> of(EIGHT), 0, "even() of eight", PaperRound::even);
        Check.gives(() -> of(EIGHT), NONE, "quarrel() of eight", PaperRound::quarrel);
        Check.gives(() -> of(EIGHT), 0, "twice() of eight", PaperRound::twice);
        Check.refuses(Homes::nine, Check.SPENT, "least() of nine", PaperRound::least);
        Check.refuses(Homes::nine, Check.SPENT, "mend(0) of nine", x -> x.mend(0));
        Check.refuses(Homes::nine, Check.SPENT, "mend(59) of nine", x -> x.mend(59));
        Check.refuses(Homes::nine, Check.SPENT, "soon() of nine", PaperRound::soon);
        Check.refuses(Homes::nine, Check.SPENT, "even() of nine", PaperRound::even);
        Check.refuses(Homes::nine, Check.SPENT, "quarrel() of nine", PaperRound::quarrel);
        Check.refuses(Homes::nine, Check.SPENT, "twice() of nine", PaperRound::twice);
        String most = "p1p1p1p1p1p1" + "r0-60(0*1=1,1*1=1,2*1=1,3*1=1,4*1=1,5*1=1)".repeat(2);
        Check.refuses(() -> of(most), Check.SPENT, "least() of twelve", PaperRound::least);
        Check.refuses(() -> of(most), Check.SPENT, "soon() of twelve", PaperRound::soon);
        Check.gives(Homes::nine, 0, "bound() of nine, three a PART", PaperRound::bound);
        Check.gives(() -> of(most), 0, "bound() of twelve, two a PART", PaperRound::bound);
    }

    private static void spentAhead() {
        Check.terms(4, "(quarrel(): all there are; twice(): ahead of NONE).");
        // Nine, of whom two readers' three alone quarrel already.
        Check.Made quarrels = () -> {
            PaperRound x = of(NINE);
            x.late(0, 0, 1);
            return x;
        };
        Check.refuses(quarrels, Check.SPENT, "quarrel() of nine, of whom one cannot", PaperRound::quarrel);
        Check.Made twiceAll = () -> {
            PaperRound x = of(NINE);
            for (int p = 0; p < 3; p++) {
                x.copies(p, 2);
            }
            return x;
        };
        Check.refuses(twiceAll, Check.SPENT, "twice() of nine, no PART of one COPY", PaperRound::twice);
        Check.gives(() -> of("p2" + "r0-60(0*1=1)".repeat(8)), NONE, "twice() of eight, no PART of one COPY", PaperRound::twice);
    }

    private static void fromMinuteOn() {
        Check.terms(4, "From minute t on: READINGS that began ahead of t stay");
        String two = "p2r0-60(0*5=9)r0-60(0*5=9)";
        mended(planned(two, 10, NONE), 11, 0, 10, 11);
        mended(planned(two, 10, NONE), 10, 0, 10, 10);
        mended(planned(two, 10, NONE), 9, 0, 9, 9);
        mended(planned(two, 10, NONE), 0, 0, 0, 0);
        mended(planned(two, 10, 20), 20, 0, 10, 20);
        mended(planned(two, 10, 20), 21, 0, 10, 20);
        mended(planned(two, 10, 20), 11, 0, 10, 11);
        mended(planned(two, NONE, NONE), 55, 0, 55, 55);
        mended(planned(two, NONE, NONE), 56, 18, NONE, NONE);
        mended(planned(two, 55, NONE), 56, 9, 55, NONE);
        mended(planned(two, 55, NONE), 59, 9, 55, NONE);
        mended(planned("p1r0-60(0*1=9)", 59), 59, 0, 59);
        mended(planned("p1r0-60(0*1=9)", NONE), 59, 0, 59);
        mended(planned("p1s2r0-60(0*5=9)r0-60(0*5=9)", 20, NONE), 21, 8, 20, 25);
    }

    private static void keptCopies() {
        Check.terms(4, "(their COPIES by their beginnings, of alike ones by WANTS' numbers: each to the COPY that ends first);");
        String four = "p2r0-60(0*10=1)r0-60(0*20=1)r0-60(0*5=1)r0-60(0*1=1)";
        mended(planned(four, 5, 0, 0, NONE), 6, 0, 5, 0, 0, 15);
        mended(planned(four, 20, 0, 0, NONE), 6, 0, 6, 0, 0, 16);
        mended(planned(four, 0, 0, NONE, NONE), 1, 0, 0, 0, 10, 15);
        mended(planned(four, 0, NONE, 1, NONE), 2, 0, 0, 6, 1, 10);
        mended(planned(four, NONE, 3, 0, NONE), 4, 0, 5, 3, 0, 15);
        PaperRound alike = planned("p2r0-60(0*3=1)r0-60(0*9=1)r0-60(0*6=1)r0-60(0*8=1)r0-60(0*1=1)", 0, 0, 9, 9, NONE);
        mended(alike, 10, 0, 0, 0, 9, 9, 15);
        PaperRound one = planned("p1r0-60(0*5=1)r0-60(0*5=1)r0-60(0*5=1)", 12, 3, NONE);
        mended(one, 13, 0, 12, 3, 17);
    }

    private static void placedBehind() {
        Check.terms(4, "all others are placed anew behind them, none ahead of t.");
        // Behind the end of all readings of the reader and of the copy that stay.
        mended(planned("p1p1r0-60(0*20=1,1*5=1)", 2, NONE), 3, 0, 2, 22);
        mended(planned("p1r0-60(0*20=1)r0-60(0*5=1)", 2, NONE), 3, 0, 2, 22);
        mended(planned("p1r0-60(0*20=1)r0-60(0*5=1)", 2, 40), 30, 0, 2, 30);
        mended(planned("p1p1r0-60(!0*5=1,1*5=1)", 3, NONE), 4, 0, 3, 8);
        mended(planned("p1p1p1r0-60(!0*5=1,1*5=1,2*5=1)", 0, 5, 50), 6, 0, 0, 5, 10);
        mended(planned("p2r0-60(0*5=1)r0-60(0*5=5)n1/0@0", 3, NONE), 4, 5, 3, NONE);
        mended(planned("p2r0-60(0*5=1)r0-60(0*5=5)n1/0@0", 3, NONE), 3, 0, 3, 3);
        mended(planned("p2r0-60(0*5=1)r0-60(0*5=5)n0/1@0", 3, NONE), 4, 0, 3, 4);
        mended(planned("p1r0-60(0*5=1)r0-60(0*5=5)c0@10-19", 3, NONE), 6, 0, 3, 20);
        mended(planned("p1r0-60(0*5=1)r0-12(0*5=5)", 3, NONE), 6, 5, 3, NONE);
        // Want 1 is anew and comes ahead of want 0, since it is worth more.
        mended(planned("p1r0-60(0*9=1)r0-20(0*9=5)", 12, NONE), 11, 0, 20, 11);
        mended(planned("p1r0-60(0*9=1)r0-19(0*9=5)", 12, NONE), 11, 5, 11, NONE);
    }

    // ---- promises 29 and 30

    private static void least() {
        Check.says(29, "The PLAN becomes the BEST: MISSED.");
        PaperRound x = of("p1r0-10(0*6=2)r0-10(0*6=9)");
        Check.plan(x, 59, 59);
        Check.due("least(), from a PLAN that does not go", x.least(), 2);
        Check.begins(x, "all READINGS are new", NONE, 0);
        Check.due("least() again", x.least(), 2);
        Check.begins(x, "least() again", NONE, 0);
        Check.due("asked() is told by want() alone", x.asked(), 0);
        x.copies(0, 2);
        Check.due("least(), the house changed", x.least(), 0);
        Check.begins(x, "least(), the house changed", 0, 0);
        Check.gives(Homes::none, 0, "least() without a HOUSE", PaperRound::least);
        Check.gives(Homes::wrong, Math.toIntExact(Homes.full().least()), "least(), it does not go", PaperRound::least);
        PaperRound full = Homes.full();
        long rows = full.count(7);
        full.least();
        Check.due("RULES stay", full.count(5), 5);
        Check.due("ROWS stay", full.count(7), rows);
        Check.says(29, "SPENT.");
        Check.refuses(Homes::nine, Check.SPENT, "least()", PaperRound::least);
        Check.refuses(Homes::nineWrong, Check.SPENT, "least(), it does not go", PaperRound::least);
    }

    private static void mend() {
        Check.says(30, "The PLAN becomes the BEST from minute t (0 .. 59) on: MISSED.");
        for (int t = 0; t < 60; t++) {
            PaperRound x = of("p1p1s1r0-60(0*5=4)r0-60(1*5=9)");
            x.read(0, 20);
            int begin = t > 20 ? 20 : Math.min(t, 55);
            int worth = t > 55 ? 0 : 9 - t / 10;
            Check.due("mend(" + t + ")", x.mend(t), 9 - worth);
            Check.begins(x, "mend(" + t + ")", begin, t > 55 ? NONE : t);
        }
        PaperRound none = new PaperRound();
        Check.due("mend(0) without a HOUSE", none.mend(0), 0);
        Check.due("mend(59) without a HOUSE", none.mend(59), 0);
        PaperRound all = planned("p1r0-60(0*5=4)r0-60(0*5=9)", 0, 5);
        mended(all, 59, 0, 0, 5);
    }

    private static void mendRefused() {
        Check.says(30, "BAD; STATE: it does not GO as it is; SPENT. (SPENT last.)");
        Check.range(Homes::full, "mend(t)", 0, 59, (x, t) -> x.mend(t));
        Check.bad(Homes::full, "mend(NONE)", x -> x.mend(NONE));
        Check.refuses(Homes::wrong, Check.STATE, "mend(0)", x -> x.mend(0));
        Check.refuses(Homes::wrong, Check.STATE, "mend(59)", x -> x.mend(59));
        Check.refuses(Homes::nine, Check.SPENT, "mend(0)", x -> x.mend(0));
        for (int t : new int[] {-1, 60, NONE, Check.MIN, Check.MAX}) {
            Check.bad(Homes::wrong, "mend(" + t + "), BAD ahead of STATE", x -> x.mend(t));
            Check.bad(Homes::nine, "mend(" + t + "), BAD ahead of SPENT", x -> x.mend(t));
            Check.bad(Homes::nineWrong, "mend(" + t + "), BAD ahead of both", x -> x.mend(t));
        }
        Check.refuses(Homes::nineWrong, Check.STATE, "mend(0), STATE ahead of SPENT", x -> x.mend(0));
        Check.refuses(Homes::nineWrong, Check.STATE, "mend(59), STATE ahead of SPENT", x -> x.mend(59));
        Check.gives(() -> planned(NINE, 0), 0, "mend(1), one of nine stays", x -> x.mend(1));
        Check.refuses(() -> planned(NINE, 0), Check.SPENT, "mend(0), none of nine stays", x -> x.mend(0));
        Check.refuses(() -> planned(NINE, 10), Check.SPENT, "mend(10), none of nine stays", x -> x.mend(10));
        Check.gives(() -> planned(NINE, 10), 0, "mend(11), one of nine stays", x -> x.mend(11));
    }

    // ---- promise 31

    private static void soonIs(String text, int due) {
        Check.due("soon of " + text, of(text).soon(), due);
    }

    private static void soon() {
        Check.says(31, "The least minute in which the last READING of a SEQUENCE of all WANTS ends (0: there are none).");
        soonIs("", 0);
        soonIs("p1p2", 0);
        soonIs("p1r0-60(0*1=1)", 1);
        soonIs("p1r0-60(0*20=1)", 20);
        soonIs("p1r59-60(0*1=1)", 60);
        soonIs("p1r3-60(0*7=1)r0-60(0*5=1)", 12);
        soonIs("p1r3-60(0*7=1)r0-60(0*3=1)", 10);
        soonIs("p1r3-60(0*7=1)r0-60(0*2=1)", 10);
        soonIs("p1p1:30r0-60(0*5=1,1*5=1)", 35);
        soonIs("p1p1r0-60(0*5=1,1*9=1)r0-60(0*5=1)", 14);
        soonIs("p1s9r20-60(0*5=1)", 25);
        soonIs("p2r0-60(0*5=1)r0-60(0*7=1)r0-60(0*3=1)", 8);
        soonIs("p1p1r0-60(!0*5=1,1*5=1)r0-60(!0*5=1,1*5=1)", 15);
        soonIs("p1r0-60(0*5=1)r4-60(0*3=1)n1/0@0", 12);
        soonIs("p1r0-60(0*5=1)r4-60(0*3=1)", 8);
        Check.says(31, "NONE: there is none.");
        soonIs("p1r0-5(0*6=1)", NONE);
        soonIs("p1r0-60(0*6=1)r0-5(0*6=1)", NONE);
        soonIs("p1r0-10(0*5=1)r0-10(0*5=1)", 10);
        soonIs("p1r0-9(0*5=1)r0-9(0*5=1)", NONE);
        soonIs("p1r0-60(0*5=1)r0-60(0*5=1)n0/1@0n1/0@0", NONE);
        soonIs("p1r0-60(0*5=1)c0@0-60", NONE);
        Check.says(31, "(The PLAN stays.)");
        for (Check.Made made : new Check.Made[] {Homes::full, Homes::wrong}) {
            PaperRound x = made.anew();
            x.soon();
            Check.due("digest() behind soon()", x.digest(), made.anew().digest());
            Check.due("asked() behind soon()", x.asked(), made.anew().asked());
        }
        Check.says(31, "SPENT.");
        Check.refuses(Homes::nine, Check.SPENT, "soon()", PaperRound::soon);
        Check.refuses(Homes::nineWrong, Check.SPENT, "soon(), it does not go", PaperRound::soon);
    }

    // ---- promise 32

    private static void evenIs(String text, int worst, int missed) {
        PaperRound x = of(text);
        Check.due("even of " + text, x.even(), worst);
        Check.due("even of " + text + ", asked()", x.asked(), missed);
    }

    private static void even() {
        Check.says(32, "The least loss of that READER of whom most is MISSED, by any SEQUENCE;");
        evenIs("", 0, 0);
        evenIs("p1p2", 0, 0);
        evenIs("p1r0-60(0*5=9)", 0, 0);
        evenIs("p1r0-4(0*5=9)", 9, 9);
        evenIs("p1r0-10(0*10=9)r0-10(0*10=8)", 8, 8);
        evenIs("p1r0-10(0*10=8)r0-10(0*10=9)", 8, 8);
        evenIs("p1r0-10(0*10=9)r0-10(0*5=5)r0-10(0*5=5)", 5, 10);
        evenIs("p1p1r0-5(0*5=4,1*5=5)r0-5(0*5=3)r0-5(1*5=3)", 4, 10);
        evenIs("p1s2r0-60(0*10=9)r0-60(0*10=9)r0-60(0*10=9)", 4, 6);
        Check.says(32, "(The PLAN stays.)");
        PaperRound x = Homes.full();
        x.even();
        Check.due("digest() behind even()", x.digest(), Homes.full().digest());
        PaperRound wrong = Homes.wrong();
        wrong.even();
        Check.due("digest() behind even(), it does not go", wrong.digest(), Homes.wrong().digest());
        Check.says(32, "SPENT.");
        Check.refuses(Homes::nine, Check.SPENT, "even()", PaperRound::even);
        Check.refuses(Homes::nineWrong, Check.SPENT, "even(), it does not go", PaperRound::even);
    }

    private static void evenFirst() {
        Check.says(32, "MISSED by the first such by asked().");
        PaperRound none = Homes.full();
        none.house(2);
        Check.due("even() of no READERS", none.even(), 0);
        Check.due("even() of no READERS, asked()", none.asked(), 0);
        // The worst of a reader is 5 in any row; the first such row is that of none.
        evenIs("p1p1p1r0-9(0*9=5)r0-9(0*9=5)r0-9(1*9=4)r0-9(2*9=3)", 5, 5 + 5 + 4 + 3);
        // Want 1 must be in; the row of 0 and 1 comes ahead of that of 1 alone.
        evenIs("p1p1p1r0-9(0*9=1)r0-9(1*9=9)r0-9(2*9=5)r0-4(2*5=5)", 5, 5 + 5);
        evenIs("p1p1p1r0-9(0*9=1)r0-9(1*9=9)r0-9(2*9=6)r0-4(2*5=5)", 5, 5 + 6 - 6);
    }

    // ---- promise 33

    private static void boundIs(String text, int due) {
        Check.due("bound of " + text, of(text).bound(), due);
    }

    private static void bound() {
        Check.says(33, "A bound: MISSED, if each PART were placed by itself (BEST of just its WANTS, told orders not looked at), all together.");
        boundIs("", 0);
        boundIs("p1p2", 0);
        boundIs("p1r0-60(0*5=9)", 0);
        boundIs("p1r0-4(0*5=9)", 9);
        boundIs("p1r0-10(0*10=9)r0-10(0*5=5)r0-10(0*5=5)", 9);
        boundIs("p1p1r0-10(0*10=9,1*10=8)", 0);
        boundIs("p1p1r0-10(0*10=9,1*11=8)", 8);
        boundIs("p1p1r0-5(0*6=9,1*6=8)r0-5(1*5=1)", 17);
        boundIs("p1:5p1r0-10(!0*6=9,1*5=8)", 9);
        boundIs("p1:5p1r0-10(!0*5=9,1*10=8)", 0);
        boundIs("p1r6-10(0*4=9)r0-60(0*5=7)n0/1@0", 0);
        boundIs("p1r6-10(0*4=9)r0-9(0*5=7)n0/1@0", 7);
        boundIs("p1s1p1s2r0-60(0*10=9,1*10=9)r0-60(0*10=9,1*10=9)", 3);
        boundIs("p2p1r0-5(0*5=9,1*5=9)r0-5(0*5=9,1*5=8)", 8);
        boundIs("p1r0-60(0*5=9)c0@4-56", 9);
        boundIs("m4p1r0-60(0*5=9)", 9);
        boundIs("p1p1p1p1p1p1" + "r0-6(0*6=1,1*6=1,2*6=1,3*6=1,4*6=1,5*6=1)".repeat(2), 6);
        boundIs(EIGHT, 0);
        PaperRound x = of(EIGHT);
        for (int r = 0; r < 8; r++) {
            x.late(r, 0, 3);
        }
        Check.due("bound of eight within three minutes", x.bound(), 5);
    }

    private static void boundStays() {
        Check.says(33, "(The PLAN stays.)");
        for (Check.Made made : new Check.Made[] {Homes::none, Homes::full, Homes::wrong, Homes::nine, Homes::nineWrong}) {
            PaperRound x = made.anew();
            Check.isTrue("bound() is not refused", x.bound() >= 0);
            Check.due("digest() behind bound()", x.digest(), made.anew().digest());
            Check.due("asked() behind bound()", x.asked(), made.anew().asked());
        }
    }

    // ---- promise 34

    private static void quarrelOf(String text, int due) {
        Check.due("quarrel of " + text, of(text).quarrel(), due);
    }

    private static void quarrel() {
        Check.says(34, "Of READERS who cannot all have all by any SEQUENCE of just their WANTS:");
        quarrelOf("p1r0-4(0*5=9)", 1);
        quarrelOf("p1r0-60(0*5=9)r0-4(0*5=9)", 2);
        quarrelOf("p1r0-5(0*5=9)r0-5(0*5=9)", 3);
        quarrelOf("p1p1r0-5(0*5=9)r0-5(0*5=9)r0-5(1*5=9)", 3);
        quarrelOf("p1p1r0-5(1*5=9)r0-5(0*5=9)r0-5(0*5=9)", 6);
        quarrelOf("p1p1r0-9(!0*5=1,1*5=1)", 1);
        quarrelOf("p1p1r0-9(0*4=1,1*5=1)r0-4(0*1=1)r0-4(1*4=1)", 7);
        quarrelOf("p1r0-60(0*5=1)r0-60(0*5=1)n0/1@0n1/0@0", 3);
        Check.says(34, "NONE: all can.");
        quarrelOf("", NONE);
        quarrelOf("p1", NONE);
        quarrelOf("p1r0-5(0*5=9)", NONE);
        quarrelOf("p1r0-10(0*5=9)r0-10(0*5=9)", NONE);
        quarrelOf("p1s9r10-60(0*5=9)", NONE);
        quarrelOf(EIGHT, NONE);
        Check.says(34, "(The PLAN stays.)");
        for (Check.Made made : new Check.Made[] {Homes::full, Homes::wrong, Homes::none}) {
            PaperRound x = made.anew();
            x.quarrel();
            Check.due("digest() behind quarrel()", x.digest(), made.anew().digest());
            Check.due("asked() behind quarrel()", x.asked(), made.anew().asked());
        }
        Check.says(34, "SPENT.");
        Check.refuses(Homes::nine, Check.SPENT, "quarrel()", PaperRound::quarrel);
    }

    private static void quarrelOrder() {
        Check.says(34, "from the first on each who is not needed for that is left out: those who stay (bits).");
        // Any three of four quarrel; the first is left out.
        quarrelOf("p1" + "r0-10(0*5=9)".repeat(4), 14);
        quarrelOf("p1" + "r0-10(0*5=9)".repeat(3), 7);
        quarrelOf("p1" + "r0-1(0*1=1)".repeat(8), 192);
        // Readers 0, 1 quarrel, and so do 2, 3: the first ones are left out.
        quarrelOf("p1p1r0-5(0*5=1)r0-5(0*1=1)r0-5(1*5=1)r0-5(1*1=1)", 12);
        quarrelOf("p1p1r0-5(0*5=1)r0-5(1*5=1)r0-5(0*1=1)r0-5(1*1=1)", 10);
        // Reader 0 quarrels with each other one, but no two others do: he stays with the last.
        quarrelOf("p1p1r0-5(0*2=1,1*3=1)r0-5(0*4=1)r0-5(1*4=1)", 5);
        quarrelOf("p1p1r0-5(0*4=1)r0-5(1*4=1)r0-5(0*2=1,1*3=1)", 6);
        quarrelOf("p1r0-4(0*5=1)r0-4(0*5=1)r0-60(0*5=1)", 2);
    }

    // ---- promise 35

    private static void twiceIs(String text, int part, int missed) {
        PaperRound x = of(text);
        Check.due("twice of " + text, x.twice(), part);
        Check.due("twice of " + text + ", asked()", x.asked(), missed);
    }

    private static void twice() {
        Check.says(35, "The PART of one COPY by whose second one BEST is least MISSED (of alike ones the first); that by asked().");
        twiceIs("p1r0-5(0*5=9)r0-5(0*5=9)", 0, 0);
        twiceIs("p1p1r0-5(0*5=9)r0-5(0*5=9)r0-5(1*5=3)r0-5(1*5=3)", 0, 3);
        twiceIs("p1p1r0-5(0*5=3)r0-5(0*5=3)r0-5(1*5=9)r0-5(1*5=9)", 1, 3);
        twiceIs("p1p1r0-5(0*5=9)r0-5(0*5=9)r0-5(1*5=9)r0-5(1*5=9)", 0, 9);
        twiceIs("p2p1p1r0-5(1*5=3)r0-5(1*5=3)r0-5(2*5=9)r0-5(2*5=9)", 2, 3);
        twiceIs("p2p1r0-5(0*6=3)", 1, 3);
        twiceIs("p1p1", 0, 0);
        twiceIs("p2p1", 1, 0);
        twiceIs("p1p1p1p1p1p1r0-60(5*5=9)", 0, 0);
        twiceIs("p2p2p2p2p2p1r0-5(5*5=9)r0-5(5*5=9)r0-5(5*5=4)", 5, 4);
        Check.says(35, "(COPIES, the PLAN stay.)");
        for (Check.Made made : new Check.Made[] {Homes::full, Homes::wrong}) {
            PaperRound x = made.anew();
            Check.isTrue("twice()", x.twice() == 0);
            Check.due("digest() behind twice()", x.digest(), made.anew().digest());
        }
    }

    private static void twiceNone() {
        Check.says(35, "NONE: there is none.");
        Check.gives(Homes::none, NONE, "twice() without a HOUSE", PaperRound::twice);
        Check.gives(() -> of("p2p2r0-5(0*5=9)r0-5(0*5=9)r0-5(0*5=9)"), NONE, "twice(), all twice", PaperRound::twice);
        PaperRound x = of("p2p2r0-5(0*5=9)");
        x.reader(0, 1);
        x.twice();
        Check.due("asked() stays behind NONE", x.asked(), 5);
        Check.due("finding() stays behind NONE", x.finding(), 0);
        x.copies(1, 1);
        Check.due("twice(), one is there once", x.twice(), 1);
        Check.due("asked() of it", x.asked(), 0);
        Check.says(35, "SPENT.");
        Check.refuses(Homes::nine, Check.SPENT, "twice()", PaperRound::twice);
        Check.refuses(Homes::nineWrong, Check.SPENT, "twice(), it does not go", PaperRound::twice);
    }
}
