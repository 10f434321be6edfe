import java.util.Arrays;

/** Promises 18 to 24 and what a PLAN is, sentence by sentence. */
public final class EdgePlanTest {
    private static final int NONE = Check.NONE;
    /** Three readers of a part, five minutes each; each of them in all the time. */
    private static final String THREE = "p1r0-60(0*5=9)r0-60(0*5=9)r0-60(0*5=9)";

    public static void main(String[] args) {
        readings();
        copies();
        oneAtATime();
        whoIsIn();
        last();
        comes();
        cushion();
        toldOrder();
        notAfter();
        firstMinute();
        worth();
        missedOfAll();
        read();
        readRefused();
        judge();
        missed();
        who();
        whoRefused();
        can();
        canRefused();
        image();
        on();
        onRefused();
        Check.end();
    }

    private static PaperRound of(String text) {
        return Check.house(text);
    }

    private static void judged(PaperRound x, int due, int... begins) {
        Check.plan(x, begins);
        Check.due("judge of " + Arrays.toString(begins), x.judge(), due);
    }

    // ---- terms 2

    private static void readings() {
        Check.terms(2, "A PLAN has READINGS: WANTS (each once at most) that begin in a minute (0 .. 59) and go on as long as wanted, without a break.");
        PaperRound x = of("p1r0-60(0*1=9)r0-60(0*20=9)");
        for (int t = 0; t < 60; t++) {
            x.read(0, t);
            Check.due("READINGS, moved to " + t, x.count(4), 1);
        }
        x.read(1, 10);
        for (int t = 0; t <= 60; t++) {
            Check.due("who(0, " + t + ")", x.who(0, t), (t == 59 ? 1 : 0) + (t >= 10 && t < 30 ? 2 : 0));
        }
    }

    private static void copies() {
        Check.terms(2, "It GOES, if in each minute: no more READERS read a PART than it has COPIES;");
        PaperRound x = of(THREE);
        judged(x, NONE, 0, 5, 10);
        judged(x, NONE, 10, 5, 0);
        judged(x, 4, 0, 4, 10);
        judged(x, 9, 0, 5, 9);
        judged(x, 4, 4, 0, 10);
        judged(x, 0, 0, 0, NONE);
        judged(x, 0, 0, 0, 0);
        judged(x, 59, 59, 59, NONE);
        judged(x, NONE, NONE, NONE, NONE);
        x.copies(0, 2);
        judged(x, NONE, 0, 0, 5);
        judged(x, 4, 0, 0, 4);
        judged(x, 4, 0, 4, 4);
        judged(x, NONE, 0, 4, 5);
        judged(x, NONE, 0, 4, 8);
        PaperRound others = of("p1p1p1r0-60(0*5=9)r0-60(0*5=9)r0-60(1*9=9)r0-60(2*9=9)");
        judged(others, 4, 0, 4, 0, 0);
        judged(others, 4, 0, 4, 3, 4);
        judged(others, NONE, 0, 5, 0, 5);
    }

    private static void oneAtATime() {
        Check.terms(2, "no READER reads two PARTS;");
        PaperRound x = of("p1p2p1r0-60(0*5=9,1*3=9,2*1=9)r0-60(0*5=9)");
        judged(x, NONE, 0, 5, 8, 5);
        judged(x, 4, 0, 4, 8, 5);
        judged(x, 4, 0, 5, 4, NONE);
        judged(x, 0, 0, 0, 0, NONE);
        judged(x, NONE, 4, 1, 0, 9);
        judged(x, 3, 3, 1, 0, 9);
        judged(x, 1, 9, 1, 1, 4);
        judged(x, NONE, 0, 5, NONE, 5);
        PaperRound others = of("p2p2p1r0-60(0*5=9,1*5=9)r0-60(0*9=9)r0-60(1*9=9)r0-60(2*9=9)");
        judged(others, 4, 0, 4, 0, 0, 0);
        judged(others, 4, 0, 4, 4, 3, 2);
        judged(others, NONE, 0, 5, 0, 5, 3);
    }

    private static void whoIsIn() {
        Check.terms(2, "who reads is in (from a on, ahead of b), it is ahead of LAST, the PART has come, and lies under no CUSHION;");
        PaperRound x = of("p1r20-30(0*5=9)");
        for (int t = 0; t < 60; t++) {
            judged(x, t < 20 || t >= 30 ? t : t > 25 ? 30 : NONE, t);
        }
        PaperRound y = of("p1r59-60(0*1=9)r59-60(0*2=9)r0-1(0*1=9)");
        judged(y, NONE, 59, NONE, 0);
        judged(y, 58, 58, NONE, 0);
        judged(y, 60, NONE, 59, 0);
        judged(y, 1, NONE, NONE, 1);
    }

    private static void last() {
        Check.terms(2, "it is ahead of LAST,");
        PaperRound x = of("m20p1r0-60(0*5=9)");
        for (int t = 0; t < 60; t++) {
            judged(x, t >= 20 ? t : t > 15 ? 20 : NONE, t);
        }
        PaperRound one = of("m1p1r0-60(0*1=9)r0-60(0*2=9)");
        judged(one, NONE, 0, NONE);
        judged(one, 1, 1, NONE);
        judged(one, 1, NONE, 0);
        PaperRound sixty = of("m60p1r0-60(0*20=9)");
        judged(sixty, NONE, 40);
        judged(sixty, 60, 41);
        judged(sixty, 60, 59);
    }

    private static void comes() {
        Check.terms(2, "the PART has come,");
        PaperRound x = of("p1:20p1r0-60(0*5=9)r0-60(1*5=9)");
        for (int t = 0; t < 60; t++) {
            judged(x, t < 20 ? t : t > 55 ? 60 : NONE, t, NONE);
            judged(x, t > 55 ? 60 : NONE, NONE, t);
        }
        x.post(0, 59, 0);
        judged(x, 58, 58, NONE);
        judged(x, 60, 59, NONE);
        x.post(0, 0, 0);
        judged(x, NONE, 0, NONE);
    }

    private static void cushion() {
        Check.terms(2, "and lies under no CUSHION;");
        PaperRound x = of("p1p1r0-60(0*5=9)r0-60(1*5=9)c0@20-22c0@40-40c0@0-0c0@60-60");
        for (int t = 0; t < 60; t++) {
            int due = t == 0 ? 0 : t <= 15 ? NONE : t <= 20 ? 20 : t <= 22 ? t : t <= 35 ? NONE : t <= 40 ? 40 : t <= 55 ? NONE : 60;
            judged(x, due, t, NONE);
            judged(x, t <= 55 ? NONE : 60, NONE, t);
        }
    }

    private static void toldOrder() {
        Check.terms(2, "a READING of a READER in told order begins, when all WANTS that he told ahead of it have been read to their end;");
        PaperRound x = of("p1p1p1r0-60(!2*5=9,0*3=9,1*2=9)r0-60(2*1=9)");
        judged(x, NONE, 0, 5, 8, NONE);
        judged(x, NONE, 0, NONE, NONE, NONE);
        judged(x, NONE, 0, 30, NONE, 40);
        judged(x, 5, NONE, 5, NONE, NONE);
        judged(x, 8, 0, NONE, 8, NONE);
        judged(x, 8, NONE, NONE, 8, 0);
        judged(x, 5, NONE, 5, 8, NONE);
        judged(x, 7, 0, 5, 7, NONE);
        judged(x, 4, 0, 4, 8, NONE);
        judged(x, 3, 6, 3, 11, NONE);
        judged(x, 5, 0, 7, 5, NONE);
        PaperRound y = of("p1p1r0-60(1*5=9,0*3=9)r0-60(!0*1=9)");
        judged(y, NONE, NONE, 5, NONE);
        judged(y, NONE, 20, 5, 8);
        judged(y, NONE, NONE, NONE, 8);
        PaperRound two = of("p1p1r0-60(!0*5=9,1*5=9)r0-60(!1*5=9,0*5=9)");
        judged(two, NONE, 0, 5, 0, 5);
        judged(two, 5, 0, 5, NONE, 5);
        judged(two, NONE, 0, NONE, 0, 5);
    }

    private static void notAfter() {
        Check.terms(2, "and none of a WANT begins, if a READING of that PART by one AFTER whom it is not wanted began in an earlier minute.");
        PaperRound x = of("p2p1r0-60(0*5=9,1*5=9)r0-60(0*5=9,1*5=9)r0-60(0*5=9)n0/1@0");
        judged(x, NONE, 10, NONE, 10, NONE, NONE);
        judged(x, 11, 11, NONE, 10, NONE, NONE);
        judged(x, NONE, 9, NONE, 10, NONE, NONE);
        judged(x, 30, 30, NONE, 0, NONE, NONE);
        judged(x, NONE, 30, NONE, NONE, NONE, 0);
        judged(x, NONE, 30, NONE, NONE, 0, NONE);
        judged(x, NONE, NONE, 30, 0, NONE, NONE);
        judged(x, NONE, NONE, 30, NONE, 0, NONE);
        judged(x, NONE, 0, NONE, 30, NONE, NONE);
        PaperRound both = of("p2r0-60(0*5=9)r0-60(0*5=9)n0/1@0n1/0@0");
        judged(both, NONE, 3, 3);
        judged(both, 4, 3, 4);
        judged(both, 4, 4, 3);
        PaperRound several = of("p2" + "r0-60(0*1=9)".repeat(3) + "n2/0@0n2/1@0");
        judged(several, NONE, 5, 6, 5);
        judged(several, 6, 5, NONE, 6);
        judged(several, 6, NONE, 5, 6);
        judged(several, 5, 9, 4, 5);
    }

    private static void firstMinute() {
        Check.terms(2, "The first minute at which it does not: the least in which one of these is not so (that of a beginning: in which it begins).");
        PaperRound x = of("m30p1:5p1r3-25(!0*5=6,1*5=4)r0-60(0*5=9)c1@12-13n1/0@0");
        judged(x, NONE, 5, 14, NONE);
        judged(x, 12, 5, 10, NONE);
        judged(x, 10, 5, 10, 10);
        judged(x, 4, 4, 10, 30);
        judged(x, 2, 5, 2, 4);
        judged(x, 1, 2, 14, 1);
        judged(x, 0, 59, 59, 0);
        judged(x, 25, 22, NONE, NONE);
        judged(x, 25, 22, 59, NONE);
        judged(x, 30, NONE, NONE, 26);
        judged(x, 25, 21, NONE, 26);
        judged(x, 30, NONE, NONE, 30);
        judged(x, 31, NONE, NONE, 31);
        judged(x, 59, NONE, NONE, 59);
        judged(x, 19, 19, NONE, 19);
        judged(x, 14, 19, 14, 19);
        judged(x, 18, 18, NONE, 18);
    }

    private static void worth() {
        Check.terms(2, "WORTH of a READING that begins in minute t: the WANT's, less f (of its PART) for each whole 10 minutes of t, 0 at least.");
        for (int f = 0; f <= 9; f++) {
            PaperRound x = of("p1s" + f + "p1s9r0-60(0*20=9)r0-60(0*1=4)r0-60(1*1=1)");
            for (int t = 0; t < 60; t++) {
                Check.plan(x, t, t);
                int tens = t < 10 ? 0 : t < 20 ? 1 : t < 30 ? 2 : t < 40 ? 3 : t < 50 ? 4 : 5;
                Check.due("missed(0), f " + f + ", t " + t, x.missed(0), Math.min(9, f * tens));
                Check.due("missed(1), f " + f + ", t " + t, x.missed(1), Math.min(4, f * tens));
                if (t % 30 == 29) {
                    x = of("p1s" + f + "p1s9r0-60(0*20=9)r0-60(0*1=4)r0-60(1*1=1)");
                }
            }
        }
    }

    private static void missedOfAll() {
        Check.terms(2, "MISSED: all WANTS' WORTH, less all READINGS'.");
        PaperRound x = of("p1s2p1r0-60(0*1=9,1*2=5)r0-60(0*3=4)");
        Check.due("without READINGS", x.missed(NONE), 18);
        x.read(0, 10);
        Check.due("with one", x.missed(NONE), 11);
        x.read(1, 59);
        Check.due("with two", x.missed(NONE), 6);
        x.read(2, 59);
        Check.due("with all, one of them worth nothing", x.missed(NONE), 6);
        x.read(2, 0);
        Check.due("with all, one of them earlier", x.missed(NONE), 2);
        x.post(0, 0, 9);
        Check.due("STALE by more", x.missed(NONE), 9);
    }

    // ---- promise 18

    private static void read() {
        Check.says(18, "A READING: its WANT begins in a minute (0 .. 59; NONE: it goes out of the PLAN): when it began (NONE).");
        PaperRound x = of(THREE);
        int was = NONE;
        for (int t = 0; t < 60; t++) {
            Check.due("read(1, " + t + ")", x.read(1, t), was);
            was = t;
        }
        Check.due("read(1, NONE)", x.read(1, NONE), 59);
        Check.due("read(1, NONE), out already", x.read(1, NONE), NONE);
        Check.due("READINGS", x.count(4), 0);
        x.read(0, 7);
        x.read(2, 7);
        Check.due("a plan that does not go is told, too", x.count(4), 2);
        Check.begins(x, "each by itself", 7, NONE, 7);
        Check.due("asked() is told by want() alone", x.asked(), 7);
    }

    private static void readRefused() {
        Check.says(18, "BAD.");
        Check.range(Homes::full, "read(w, 0)", 0, 2, (x, w) -> x.read(w, 0));
        Check.range(Homes::full, "read(w, NONE)", 0, 2, (x, w) -> x.read(w, NONE));
        for (int t = 0; t < 60; t++) {
            int minute = t;
            Check.gives(Homes::full, NONE, "read(2, " + t + ")", x -> x.read(2, minute));
        }
        for (int t : new int[] {-1, -2, -8, -10, 60, 61, 256, -256, Check.MIN, Check.MAX}) {
            Check.bad(Homes::full, "read(0, " + t + ")", x -> x.read(0, t));
            Check.bad(Homes::full, "read(2, " + t + ")", x -> x.read(2, t));
        }
        Check.bad(Homes::none, "read(0, NONE)", x -> x.read(0, NONE));
    }

    // ---- promise 19

    private static void judge() {
        Check.says(19, "The first minute at which the PLAN does not GO; NONE.");
        Check.gives(Homes::none, NONE, "judge() without a HOUSE", PaperRound::judge);
        Check.gives(Homes::full, NONE, "judge(), it goes", PaperRound::judge);
        Check.gives(Homes::wrong, 4, "judge(), it does not go", PaperRound::judge);
        PaperRound x = Homes.wrong();
        x.judge();
        Check.due("judge() changes nothing", x.digest(), Homes.wrong().digest());
        Check.due("judge() does not tell by asked()", x.asked(), Homes.wrong().asked());
        PaperRound y = of("p1r0-60(0*2=9)r0-60(0*2=9)");
        judged(y, 0, 0, 0);
        judged(y, 60, NONE, 59);
    }

    // ---- promise 20

    private static void missed() {
        Check.says(20, "MISSED of a READER (NONE: of all).");
        Check.gives(Homes::full, 0, "missed(0)", x -> x.missed(0));
        Check.gives(Homes::full, 9, "missed(1)", x -> x.missed(1));
        Check.gives(Homes::full, 9, "missed(NONE)", x -> x.missed(NONE));
        Check.gives(Homes::wrong, 9, "missed(NONE), it does not go", x -> x.missed(NONE));
        Check.gives(Homes::none, 0, "missed(NONE) without a HOUSE", x -> x.missed(NONE));
        PaperRound eight = of("p1" + "r0-60(0*1=9)".repeat(8));
        eight.read(7, 0);
        Check.due("missed(7) of eight", eight.missed(7), 0);
        Check.due("missed(6) of eight", eight.missed(6), 9);
        Check.due("missed(NONE) of eight", eight.missed(NONE), 63);
        Check.says(20, "BAD.");
        for (int r : new int[] {-1, -2, -8, -10, 2, 3, 8, 256, Check.MIN, Check.MAX}) {
            Check.bad(Homes::full, "missed(" + r + ")", x -> x.missed(r));
        }
        Check.bad(Homes::none, "missed(0) without a HOUSE", x -> x.missed(0));
    }

    // ---- promise 21

    private static void who() {
        Check.says(21, "READERS (bits) who read a PART in a minute (0 .. 60) by the PLAN.");
        PaperRound x = of("p1p1" + "r0-60(0*3=9)".repeat(7) + "r0-60(0*1=9,1*20=9)");
        Check.plan(x, 0, 1, 2, 3, 4, 5, 6, 0, 59);
        int[] due = {129, 3, 7, 14, 28, 56, 112, 96, 64, 0};
        for (int t = 0; t <= 9; t++) {
            Check.due("who(0, " + t + ")", x.who(0, t), due[t]);
        }
        Check.due("who(1, 58)", x.who(1, 58), 0);
        Check.due("who(1, 59)", x.who(1, 59), 128);
        Check.due("who(1, 60), the plan goes on", x.who(1, 60), 128);
        Check.due("who(0, 60)", x.who(0, 60), 0);
        x.read(8, 41);
        Check.due("who(1, 60), to the last", x.who(1, 60), 128);
        x.read(8, 40);
        Check.due("who(1, 60), ended", x.who(1, 60), 0);
        Check.due("who(1, 59), about to end", x.who(1, 59), 128);
        x.read(8, NONE);
        Check.due("who(1, 59), out of the PLAN", x.who(1, 59), 0);
    }

    private static void whoRefused() {
        Check.terms(0, "Sets are told by bits.");
        PaperRound x = of("p1" + "r0-60(0*1=9)".repeat(8));
        for (int w = 0; w < 8; w++) {
            x.read(w, 5);
        }
        Check.due("who(0, 5), all eight", x.who(0, 5), 255);
        Check.says(21, "BAD.");
        Check.range(Homes::full, "who(p, 0)", 0, 1, (y, p) -> y.who(p, 0));
        Check.range(Homes::full, "who(0, t)", 0, 60, (y, t) -> y.who(0, t));
        Check.bad(Homes::full, "who(0, NONE)", y -> y.who(0, NONE));
        Check.bad(Homes::full, "who(NONE, 0)", y -> y.who(NONE, 0));
    }

    // ---- promise 22

    private static void can() {
        Check.says(22, "WANTS (bits) of a READER that are not in the PLAN, with which, begun in a minute (0 .. 59), it GOES.");
        PaperRound x = of("m40p1p1:7p2r5-30(0*5=9,1*3=9,2*1=9)r0-60(0*5=9,2*9=9)c2@9-9");
        int[][] due = {{0, 0}, {4, 0}, {5, 5}, {6, 5}, {7, 7}, {8, 7}, {9, 3}, {10, 7}, {25, 7}, {26, 6}, {27, 6}, {28, 4}, {29, 4}, {30, 0}, {59, 0}};
        for (int[] d : due) {
            Check.due("can(0, " + d[0] + ")", x.can(0, d[0]), d[1]);
        }
        x.read(1, 10);
        Check.due("can(0, 9), that in the PLAN is none, and he would read two", x.can(0, 9), 0);
        Check.due("can(0, 10), he reads", x.can(0, 10), 0);
        Check.due("can(0, 12), he reads", x.can(0, 12), 0);
        Check.due("can(0, 13), he has read", x.can(0, 13), 5);
        Check.due("can(1, 35)", x.can(1, 35), 8);
        Check.due("can(1, 31)", x.can(1, 31), 24);
        x.read(0, 20);
        Check.due("can(1, 15), ahead", x.can(1, 15), 24);
        Check.due("can(1, 16), one COPY", x.can(1, 16), 16);
        Check.due("can(1, 24), one COPY", x.can(1, 24), 16);
        Check.due("can(1, 25), behind", x.can(1, 25), 24);
        Check.begins(x, "can() changes nothing", 20, 10, NONE, NONE, NONE);
        PaperRound order = of("p1p1r0-60(!0*5=9,1*5=9)r0-60(0*5=9)n1/0@0");
        Check.due("can(0, 0), told order", order.can(0, 0), 1);
        order.read(2, 10);
        Check.due("can(0, 9): the other one would be after him, and there is one COPY", order.can(0, 9), 0);
        order.copies(0, 2);
        Check.due("can(0, 9): the other one would be after him", order.can(0, 9), 0);
        Check.due("can(0, 10): not after him", order.can(0, 10), 1);
        order.read(0, 10);
        Check.due("can(0, 14)", order.can(0, 14), 0);
        Check.due("can(0, 15)", order.can(0, 15), 2);
        order.read(2, NONE);
        Check.due("can(1, 10), not after", order.can(1, 10), 4);
        Check.due("can(1, 11), after", order.can(1, 11), 0);
    }

    private static void canRefused() {
        Check.says(22, "BAD; STATE: it does not GO as it is.");
        Check.range(Homes::full, "can(r, 0)", 0, 1, (x, r) -> x.can(r, 0));
        Check.range(Homes::full, "can(0, t)", 0, 59, (x, t) -> x.can(0, t));
        Check.bad(Homes::full, "can(0, NONE)", x -> x.can(0, NONE));
        Check.bad(Homes::full, "can(NONE, 0)", x -> x.can(NONE, 0));
        Check.refuses(Homes::wrong, Check.STATE, "can(0, 0)", x -> x.can(0, 0));
        Check.refuses(Homes::wrong, Check.STATE, "can(1, 59)", x -> x.can(1, 59));
        Check.bad(Homes::wrong, "can(2, 0), BAD ahead of STATE", x -> x.can(2, 0));
        Check.bad(Homes::wrong, "can(-1, 0), BAD ahead of STATE", x -> x.can(-1, 0));
        Check.bad(Homes::wrong, "can(0, 60), BAD ahead of STATE", x -> x.can(0, 60));
        Check.bad(Homes::wrong, "can(0, -1), BAD ahead of STATE", x -> x.can(0, -1));
    }

    // ---- promise 23

    private static void image() {
        Check.says(23, "An image: of each WANT when it begins (NONE), comes to a ROW (anew): how many WANTS.");
        PaperRound x = of(THREE);
        Check.plan(x, 0, 59, NONE);
        Check.fill(x, 2, 7, 7, 7, 7, 7);
        Check.fill(x, 1, 7);
        for (int r = 0; r < 6; r++) {
            Check.due("image(" + r + ")", x.image(r), 3);
            Check.holds(x, "image(" + r + ")", r, 0, 59, NONE);
        }
        x.read(0, 5);
        Check.holds(x, "an image stays as it is", 2, 0, 59, NONE);
        Check.begins(x, "the PLAN stays", 5, 59, NONE);
        PaperRound none = new PaperRound();
        none.row(3, 4);
        Check.due("image(3) without a HOUSE", none.image(3), 0);
        Check.holds(none, "image(3) without a HOUSE", 3);
        Check.due("image(4) without a HOUSE", none.image(4), 0);
        Check.due("ROWS", none.count(7), 2);
        PaperRound most = of("p1p1p1p1p1p1" + "r0-9(0*1=1,1*1=1,2*1=1,3*1=1,4*1=1,5*1=1)".repeat(2));
        most.read(11, 59);
        Check.due("image of twelve", most.image(0), 12);
        Check.told(most, "the first of twelve", most.at(0, 0), NONE);
        Check.told(most, "the last of twelve", most.at(0, 11), 59);
        Check.says(23, "BAD.");
        Check.range(Homes::full, "image(r)", 0, 5, (y, r) -> y.image(r));
    }

    // ---- promise 24

    private static void on() {
        Check.says(24, "The PLAN is as an image in a ROW tells: 1.");
        int[][] plans = {{NONE, NONE, NONE}, {0, 0, 0}, {59, 59, 59}, {0, NONE, 59}, {12, 4, NONE}, {NONE, 59, 0}};
        for (int[] plan : plans) {
            PaperRound x = of(THREE);
            Check.plan(x, 1, NONE, 58);
            Check.fill(x, 4, plan);
            Check.due("on(4)", x.on(4), 1);
            Check.begins(x, "on(4)", plan);
            Check.holds(x, "the ROW stays", 4, plan);
            x.lay(4, 0, 33);
            Check.begins(x, "the PLAN is as the ROW was", plan);
            Check.due("image(5)", x.image(5), 3);
            Check.holds(x, "image behind on", 5, plan);
        }
        PaperRound back = Homes.full();
        back.least();
        Check.due("on(3), the image from before least()", back.on(3), 1);
        Check.begins(back, "on(3)", 0, 5, NONE);
        PaperRound none = new PaperRound();
        none.row(0, 0);
        Check.due("on(0) without a HOUSE", none.on(0), 1);
    }

    private static PaperRound withRow(int... values) {
        PaperRound x = Homes.full();
        Check.fill(x, 0, values);
        return x;
    }

    private static void onRefused() {
        Check.says(24, "BAD; NOTHING; SIZE: not as many as WANTS; UNLIKE: neither 0 .. 59 nor NONE.");
        Check.range(Homes::full, "on(r)", 0, 5, (x, r) -> x.on(r));
        Check.finding(Homes::full, Check.NOTHING, "on(4)", x -> x.on(4));
        Check.finding(Homes::full, Check.SIZE, "on(2), of none", x -> x.on(2));
        Check.finding(Homes::full, Check.SIZE, "on(5), of 48", x -> x.on(5));
        Check.finding(() -> withRow(0, 0), Check.SIZE, "on(0), one too few", x -> x.on(0));
        Check.finding(() -> withRow(0, 0, 0, 0), Check.SIZE, "on(0), one too many", x -> x.on(0));
        Check.finding(() -> withRow(60, -1), Check.SIZE, "on(0), SIZE ahead of UNLIKE", x -> x.on(0));
        Check.finding(() -> withRow(0, 0, 0, 60), Check.SIZE, "on(0), SIZE ahead of UNLIKE", x -> x.on(0));
        for (int v : new int[] {60, 61, -1, -2, -8, -10, 256, -256, 247, Check.MIN, Check.MAX}) {
            Check.finding(() -> withRow(v, 0, 0), Check.UNLIKE, "on(0), first " + v, x -> x.on(0));
            Check.finding(() -> withRow(59, v, NONE), Check.UNLIKE, "on(0), second " + v, x -> x.on(0));
            Check.finding(() -> withRow(NONE, 0, v), Check.UNLIKE, "on(0), last " + v, x -> x.on(0));
        }
        Check.Made emptyWithOne = () -> {
            PaperRound x = new PaperRound();
            x.row(0, 1);
            return x;
        };
        Check.finding(emptyWithOne, Check.SIZE, "on(0) without a HOUSE", x -> x.on(0));
        for (int v : new int[] {0, 59, NONE}) {
            Check.gives(() -> withRow(v, v, v), 1, "on(0), all " + v, x -> x.on(0));
        }
    }
}
