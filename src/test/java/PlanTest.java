/** Promises 18 to 24: readings, what goes, what is missed, who reads, what one can begin, images. */
public final class PlanTest {
    private static final int NO = Check.NONE;
    private static final String A = "m40 p1s2 p2:5 r0-30(!0*5=6,1*10=4) r10-40(0*10=9) n1/0@0 c0@20-22";

    public static void main(String[] args) {
        read();
        judgeOneReading();
        judgeSeveral();
        judgeOtherHouses();
        missed();
        who();
        can();
        image();
        on();
        Check.end();
    }

    private static void plan(PaperRound x, int... begins) {
        for (int w = 0; w < begins.length; w++) {
            x.read(w, begins[w]);
        }
    }

    private static void judged(PaperRound x, int due, int... begins) {
        plan(x, begins);
        Check.due("judge of " + java.util.Arrays.toString(begins), x.judge(), due);
    }

    private static void read() {
        PaperRound x = Check.house(A);
        Check.due("read(2, 59)", x.read(2, 59), NO);
        Check.due("read(2, 0)", x.read(2, 0), 59);
        Check.due("read(2, NONE)", x.read(2, NO), 0);
        Check.due("read(2, NONE) again", x.read(2, NO), NO);
        Check.due("count(4)", x.count(4), 0);
        for (int w : new int[] {-1, 3, 24, NO}) {
            Check.refused(x, Check.BAD, "read(" + w + ", 0)", () -> x.read(w, 0));
        }
        for (int t : new int[] {-1, 60, -8, -10, Integer.MIN_VALUE}) {
            Check.refused(x, Check.BAD, "read(0, " + t + ")", () -> x.read(0, t));
        }
    }

    private static void judgeOneReading() {
        PaperRound x = Check.house(A);
        judged(x, NO, NO, NO, NO);
        judged(x, NO, 15, NO, NO);
        judged(x, 20, 16, NO, NO);
        judged(x, 22, 22, NO, NO);
        judged(x, NO, 23, NO, NO);
        judged(x, NO, 25, NO, NO);
        judged(x, 30, 26, NO, NO);
        judged(x, 59, 59, NO, NO);
        judged(x, 9, NO, NO, 9);
        judged(x, NO, NO, NO, 10);
        judged(x, 20, NO, NO, 11);
        judged(x, NO, NO, NO, 30);
        judged(x, 40, NO, NO, 31);
        x.late(1, 10, 60);
        judged(x, 40, NO, NO, 31);
        judged(x, 41, NO, NO, 41);
    }

    private static void judgeSeveral() {
        PaperRound x = Check.house(A);
        judged(x, 5, NO, 5, NO);
        judged(x, NO, 0, 5, NO);
        judged(x, 4, 0, 4, NO);
        judged(x, 5, 1, 5, NO);
        judged(x, 5, 20, 5, NO);
        judged(x, 6, 23, 6, NO);
        judged(x, NO, 0, 20, NO);
        judged(x, 30, 0, 21, NO);
        judged(x, 10, 0, NO, 10);
        judged(x, NO, 23, NO, 10);
        judged(x, 10, 10, NO, 10);
        judged(x, 30, 26, NO, 31);
        judged(x, 9, 16, NO, 9);
        x.copies(0, 2);
        judged(x, NO, 10, NO, 10);
        judged(x, 10, 9, NO, 10);
        judged(x, NO, 11, NO, 10);
        x.copies(0, 1);
        judged(x, 11, 11, NO, 10);
    }

    private static void judgeOtherHouses() {
        PaperRound two = Check.house("p1p1r0-30(0*5=1,1*5=1)");
        judged(two, 3, 0, 3);
        judged(two, 3, 3, 0);
        judged(two, NO, 0, 5);
        judged(two, NO, 5, 0);
        PaperRound last = Check.house("m8p1r0-60(0*5=1)");
        judged(last, NO, 3);
        judged(last, 8, 4);
        judged(last, 9, 9);
        PaperRound comes = Check.house("p1:7r0-60(0*20=1)");
        judged(comes, 6, 6);
        judged(comes, NO, 7);
        judged(comes, NO, 40);
        judged(comes, 60, 41);
        judged(comes, 60, 59);
        PaperRound copies = Check.house("p2r0-60(0*5=1)r0-60(0*5=1)r0-60(0*5=1)");
        judged(copies, 4, 0, 0, 4);
        judged(copies, NO, 0, 0, 5);
        judged(copies, 2, 0, 1, 2);
        judged(copies, 2, 2, 0, 1);
        PaperRound chain = Check.house("p1r0-9(0*1=1)r0-9(0*1=1)r0-9(0*1=1)n0/1@0n2/0@0");
        judged(chain, NO, 0, 1, NO);
        judged(chain, 1, 1, 0, NO);
        judged(chain, 1, 0, 2, 1);
        judged(chain, NO, 1, 2, 0);
    }

    private static void missed() {
        PaperRound x = Check.house(A);
        Check.due("missed, no readings", x.missed(NO), 19);
        Check.due("missed(0), no readings", x.missed(0), 10);
        plan(x, 0, 5, 23);
        Check.due("missed(NONE)", x.missed(NO), 4);
        Check.due("missed(0)", x.missed(0), 0);
        Check.due("missed(1)", x.missed(1), 4);
        plan(x, 9, 5, 10);
        Check.due("missed(0), nine minutes", x.missed(0), 0);
        Check.due("missed(1), ten minutes", x.missed(1), 2);
        x.post(0, 0, 9);
        plan(x, 59, 5, 19);
        Check.due("missed(0), none left", x.missed(0), 6);
        Check.due("missed(1), none left", x.missed(1), 9);
        for (int r : new int[] {-1, 2, -8, -10}) {
            Check.refused(x, Check.BAD, "missed(" + r + ")", () -> x.missed(r));
        }
    }

    private static void who() {
        PaperRound x = Check.house(A);
        plan(x, 0, 5, 10);
        int[][] due = {{0, 0, 1}, {0, 4, 1}, {0, 5, 0}, {1, 4, 0}, {1, 5, 1}, {0, 10, 2}, {0, 19, 2}, {0, 20, 0}, {0, 60, 0}};
        for (int[] d : due) {
            Check.due("who(" + d[0] + ", " + d[1] + ")", x.who(d[0], d[1]), d[2]);
        }
        plan(x, 10, NO, 10);
        Check.due("who(0, 14), two", x.who(0, 14), 3);
        Check.due("who(0, 15), one", x.who(0, 15), 2);
        plan(x, NO, NO, 59);
        Check.due("who(0, 60), beyond", x.who(0, 60), 2);
        int[][] bad = {{-1, 0}, {2, 0}, {0, -1}, {0, 61}};
        for (int[] b : bad) {
            Check.refused(x, Check.BAD, "who(" + b[0] + ", " + b[1] + ")", () -> x.who(b[0], b[1]));
        }
    }

    private static void can() {
        PaperRound x = Check.house(A);
        int[][] empty = {{0, 0, 1}, {0, 5, 1}, {0, 16, 0}, {0, 25, 1}, {0, 26, 0}, {1, 9, 0}, {1, 10, 4}, {1, 11, 0}, {1, 30, 4}, {1, 31, 0}};
        for (int[] d : empty) {
            Check.due("can(" + d[0] + ", " + d[1] + ")", x.can(d[0], d[1]), d[2]);
        }
        plan(x, 0, NO, NO);
        Check.due("can(0, 4), he reads", x.can(0, 4), 0);
        Check.due("can(0, 5), the next one", x.can(0, 5), 2);
        Check.due("can(1, 10), not after", x.can(1, 10), 0);
        plan(x, NO, NO, 10);
        Check.due("can(0, 0), the later one would be after", x.can(0, 0), 0);
        Check.due("can(0, 23)", x.can(0, 23), 1);
        Check.begins(x, "can changes nothing", NO, NO, 10);
        int[][] bad = {{-1, 0}, {2, 0}, {0, -1}, {0, 60}, {0, NO}};
        for (int[] b : bad) {
            Check.refused(x, Check.BAD, "can(" + b[0] + ", " + b[1] + ")", () -> x.can(b[0], b[1]));
        }
        plan(x, NO, NO, 11);
        Check.refused(x, Check.STATE, "can, it does not go", () -> x.can(0, 0));
        Check.refused(x, Check.BAD, "can, it does not go, and bad", () -> x.can(0, 60));
        PaperRound two = Check.house("p1p1r0-30(0*5=1,1*5=1)");
        Check.due("can, two wants", two.can(0, 7), 3);
    }

    private static void image() {
        PaperRound x = Check.house(A);
        plan(x, 0, 59, NO);
        x.row(2, 7);
        Check.due("image(2)", x.image(2), 3);
        Check.holds(x, "image", 2, 0, 59, NO);
        Check.due("image(0)", x.image(0), 3);
        Check.refused(x, Check.BAD, "image(-1)", () -> x.image(-1));
        Check.refused(x, Check.BAD, "image(6)", () -> x.image(6));
        PaperRound none = new PaperRound();
        Check.due("image without a house", none.image(5), 0);
        Check.due("a row is there", none.count(7), 1);
    }

    private static void on() {
        PaperRound x = Check.house(A);
        Check.fill(x, 0, 0, 59, NO);
        Check.due("on(0)", x.on(0), 1);
        Check.begins(x, "on", 0, 59, NO);
        x.read(0, NO);
        Check.holds(x, "the image stays", 0, 0, 59, NO);
        Check.due("on(0) again", x.on(0), 1);
        Check.begins(x, "on again", 0, 59, NO);
        Check.refused(x, Check.BAD, "on(6)", () -> x.on(6));
        Check.refused(x, Check.BAD, "on(-1)", () -> x.on(-1));
        Check.finds(x, Check.NOTHING, "on(1)", () -> x.on(1));
        Check.fill(x, 1, 0, 60);
        Check.finds(x, Check.SIZE, "on, too few", () -> x.on(1));
        Check.fill(x, 1, 0, 0, 0, 0);
        Check.finds(x, Check.SIZE, "on, too many", () -> x.on(1));
        for (int t : new int[] {60, -1, -8, -10}) {
            Check.fill(x, 1, 5, 5, t);
            Check.refused(x, Check.FINDING, "on, unlike " + t, () -> x.on(1));
            Check.finds(x, Check.UNLIKE, "on, unlike " + t, () -> x.on(1));
            Check.fill(x, 1, t, 5, 5);
            Check.finds(x, Check.UNLIKE, "on, unlike first " + t, () -> x.on(1));
        }
    }
}
