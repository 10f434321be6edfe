/** Objects in states that the tests begin from, each in less than two hundred calls. */
final class Homes {
    /** Two readers, one of them in told order; a part there twice, a stale one, a cushion, one not after the other. */
    static final String HOUSE = "m40 p1s2 p2:5 r0-30(!0*5=6,1*10=4) r10-40(0*10=9) n1/0@0 c0@20-22";
    private static final String NINE = "p1p1p1r0-60(0*1=1,1*1=1,2*1=1)r0-60(0*1=1,1*1=1,2*1=1)r0-60(0*1=1,1*1=1,2*1=1)";
    /** How many calls nine() makes. */
    static final int NINE_CALLS = 2 + NINE.length() + 3;
    private static final String SEVEN = "p1r0-9(0*1=1)r0-9(0*1=1)r0-9(0*1=1)r0-9(0*1=1)r0-9(0*1=1)r0-9(0*1=1)r0-9(0*1=1)";

    private Homes() {
    }

    static PaperRound none() {
        return new PaperRound();
    }

    /**
     * Rows: 0 of five ints, 1 a card, 2 of none, 3 an image, 4 missing, 5 of 48. Texts: 0 the house, 1 with a fault,
     * 2 of no bytes, 3 missing. Rules 0 .. 4 of kinds 1 .. 5, 5 missing. A plan that goes; each finding found once or more.
     */
    static PaperRound full() {
        PaperRound x = Check.house(HOUSE);
        Check.write(x, 1, "px");
        x.text(2, 0);
        findAll(x);
        Check.fill(x, 0, 3, -1, Check.MAX, Check.MIN, 8);
        Check.fill(x, 1, 1, 0);
        x.row(2, 0);
        x.row(5, 48);
        x.lay(5, 47, -7);
        for (int k = 0; k < 5; k++) {
            x.rule(k, k + 1, 1);
        }
        Check.plan(x, 0, 5, Check.NONE);
        x.image(3);
        x.at(0, 4);
        return x;
    }

    private static void findAll(PaperRound x) {
        x.at(0, 0);
        x.row(0, 0);
        x.at(0, 0);
        x.rule(0, 3, 0);
        x.mark(0, 4);
        x.mark(0, 5);
        x.row(0, -1);
        x.mean(0);
        x.house(0);
    }

    /** As full(), but the plan does not go. */
    static PaperRound wrong() {
        PaperRound x = full();
        x.read(1, 4);
        return x;
    }

    /** Nine wants of three readers; the plan goes. */
    static PaperRound nine() {
        PaperRound x = Check.house(NINE);
        x.row(0, 2);
        x.lay(0, 1, 5);
        x.read(0, 59);
        return x;
    }

    /** As nine(), but the plan does not go. */
    static PaperRound nineWrong() {
        PaperRound x = nine();
        x.read(1, 59);
        return x;
    }

    /** Seven readers of a want each. */
    static PaperRound seven() {
        PaperRound x = Check.house(SEVEN);
        Check.fill(x, 0, 4, 5);
        x.read(0, 8);
        return x;
    }
}
