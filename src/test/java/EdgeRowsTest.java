/** Promises 1 to 9, sentence by sentence: just inside each bound, at it, just beyond it; empty and full; refused. */
public final class EdgeRowsTest {
    private static final int MIN = Check.MIN, MAX = Check.MAX, NONE = Check.NONE;

    public static void main(String[] args) {
        aNewObject();
        newObjectsAreApart();
        row();
        rowRefused();
        lay();
        layRefused();
        at();
        tear();
        copy();
        copyOverlaps();
        copyBeyond();
        copyOrder();
        mean();
        meanRefused();
        text();
        put();
        putCut();
        putRefused();
        Check.end();
    }

    // ---- promise 1

    private static void aNewObject() {
        Check.says(1, "No ROWS, TEXTS, RULES; no HOUSE;");
        for (int i = 0; i < 6; i++) {
            int n = i;
            Check.finding(Homes::none, Check.NOTHING, "at(" + n + ", 0)", x -> x.at(n, 0));
            Check.finding(Homes::none, Check.NOTHING, "tear(" + n + ")", x -> x.tear(n));
            Check.finding(Homes::none, Check.NOTHING, "mean(" + n + ")", x -> x.mean(n));
            Check.finding(Homes::none, Check.NOTHING, "on(" + n + ")", x -> x.on(n));
            Check.finding(Homes::none, Check.NOTHING, "run(" + n + ")", x -> x.run(n));
            Check.finding(Homes::none, Check.NOTHING, "mark(" + n + ", 3)", x -> x.mark(n, 3));
        }
        for (int i = 0; i < 4; i++) {
            int n = i;
            Check.finding(Homes::none, Check.NOTHING, "fault(" + n + ")", x -> x.fault(n));
            Check.finding(Homes::none, Check.NOTHING, "house(" + n + ")", x -> x.house(n));
            Check.finding(Homes::none, Check.NOTHING, "put(" + n + ", 0, 0)", x -> x.put(n, 0, 0));
        }
        int[] counts = {0, 0, 0, 60, 0, 0, 0, 0, 0};
        for (int i = 0; i < 9; i++) {
            int what = i;
            Check.gives(Homes::none, counts[what], "count(" + what + ")", x -> x.count(what));
        }
        Check.bad(Homes::none, "part(0, 0)", x -> x.part(0, 0));
        Check.bad(Homes::none, "reader(0, 0)", x -> x.reader(0, 0));
        Check.bad(Homes::none, "want(0, 0)", x -> x.want(0, 0));
        Check.bad(Homes::none, "copies(0, 1)", x -> x.copies(0, 1));
        Check.bad(Homes::none, "post(0, 0, 0)", x -> x.post(0, 0, 0));
        Check.bad(Homes::none, "late(0, 0, 1)", x -> x.late(0, 0, 1));
        Check.bad(Homes::none, "read(0, 0)", x -> x.read(0, 0));
        Check.bad(Homes::none, "missed(0)", x -> x.missed(0));
        Check.bad(Homes::none, "who(0, 0)", x -> x.who(0, 0));
        Check.bad(Homes::none, "can(0, 0)", x -> x.can(0, 0));
        Check.says(1, "the PLAN without READINGS.");
        Check.gives(Homes::none, 0, "count(4)", x -> x.count(4));
        Check.gives(Homes::none, NONE, "judge()", PaperRound::judge);
        Check.gives(Homes::none, 0, "missed(NONE)", x -> x.missed(NONE));
        Check.gives(Homes::none, 0, "image(0)", x -> x.image(0));
    }

    private static void newObjectsAreApart() {
        Check.says(1, "No ROWS, TEXTS, RULES; no HOUSE; the PLAN without READINGS.");
        long due = new PaperRound().digest();
        PaperRound other = Homes.full();
        PaperRound x = new PaperRound();
        Check.due("digest() with another object beside", x.digest(), due);
        Check.due("asked() with another object beside", x.asked(), 0);
        Check.due("finding() with another object beside", x.finding(), 0);
        x.row(0, 1);
        x.text(0, 1);
        x.house(0);
        Check.due("digest() of the other one", other.digest(), Homes.full().digest());
    }

    // ---- promise 2

    private static void row() {
        Check.says(2, "A ROW is there with n ints 0: n.");
        for (int n = 0; n <= 48; n++) {
            PaperRound x = new PaperRound();
            Check.due("row(0, " + n + ")", x.row(0, n), n);
            Check.due("count(7)", x.count(7), 1);
            Check.holds(x, "row(0, " + n + ")", 0, new int[n]);
        }
        int[][] sizes = {{5, 5}, {5, 3}, {3, 48}, {48, 1}, {48, 0}, {0, 48}};
        for (int[] s : sizes) {
            PaperRound x = new PaperRound();
            x.row(4, s[0]);
            for (int i = 0; i < s[0]; i++) {
                x.lay(4, i, i + 7);
            }
            Check.due("row(4, " + s[1] + ") anew", x.row(4, s[1]), s[1]);
            Check.holds(x, "row of " + s[0] + " anew", 4, new int[s[1]]);
            x.row(4, 48);
            Check.holds(x, "row of " + s[0] + " anew, then of 48", 4, new int[48]);
            Check.due("count(7)", x.count(7), 1);
        }
        PaperRound x = new PaperRound();
        for (int r = 0; r < 6; r++) {
            Check.fill(x, r, r + 1, -r);
        }
        Check.due("count(7) of six rows", x.count(7), 6);
        x.row(3, 2);
        for (int r = 0; r < 6; r++) {
            Check.holds(x, "each row by itself", r, r == 3 ? 0 : r + 1, r == 3 ? 0 : -r);
        }
    }

    private static void rowRefused() {
        Check.says(2, "BAD: also n above 48;");
        Check.range(Homes::full, "row(r, 2)", 0, 5, (x, r) -> x.row(r, 2));
        for (int n : new int[] {49, 50, 64, 304, MAX}) {
            Check.bad(Homes::full, "row(0, " + n + ")", x -> x.row(0, n));
            Check.bad(Homes::full, "row(4, " + n + ")", x -> x.row(4, n));
        }
        Check.says(2, "SIZE: below 0.");
        for (int n : new int[] {-1, -2, -9, MIN, MIN + 1}) {
            Check.finding(Homes::full, Check.SIZE, "row(0, " + n + ")", x -> x.row(0, n));
            Check.finding(Homes::full, Check.SIZE, "row(4, " + n + ")", x -> x.row(4, n));
        }
        Check.terms(0, "Refused is, the first of these that fits, in this order: BAD -1 (a number that is none, or not as told), FULL -2, STATE -4 (not now), SPENT -6 (more than told), FINDING -3 (finding() tells which)");
        Check.bad(Homes::full, "row(-1, -1), BAD ahead of SIZE", x -> x.row(-1, -1));
        Check.bad(Homes::full, "row(6, -1), BAD ahead of SIZE", x -> x.row(6, -1));
        Check.bad(Homes::full, "row(6, MIN), BAD ahead of SIZE", x -> x.row(6, MIN));
        Check.bad(Homes::full, "row(6, 49), BAD twice", x -> x.row(6, 49));
    }

    // ---- promise 3

    private static void lay() {
        Check.says(3, "Place i of a ROW is v: what it was, told by asked(): 1.");
        PaperRound x = new PaperRound();
        x.row(5, 48);
        int was = 0;
        for (int v : new int[] {1, -1, 48, 1000, 65536, MAX, MIN, MAX - 1, MIN + 1, 0}) {
            Check.told(x, "lay(5, 0, " + v + ")", x.lay(5, 0, v), was);
            Check.told(x, "lay(5, 47, " + v + ")", x.lay(5, 47, v), was);
            Check.told(x, "at(5, 47)", x.at(5, 47), v);
            Check.told(x, "at(5, 46), beside it", x.at(5, 46), 0);
            was = v;
        }
        PaperRound one = new PaperRound();
        one.row(0, 1);
        Check.told(one, "lay(0, 0, 9), a row of one", one.lay(0, 0, 9), 0);
        Check.told(one, "lay(0, 0, 9) again", one.lay(0, 0, 9), 9);
        one.tear(0);
        one.row(0, 1);
        Check.told(one, "lay(0, 0, 4), torn and anew", one.lay(0, 0, 4), 0);
    }

    private static void layRefused() {
        Check.says(3, "BAD; NOTHING; BEYOND.");
        Check.range(Homes::full, "lay(r, 0, 7)", 0, 5, (x, r) -> x.lay(r, 0, 7));
        Check.bad(Homes::full, "lay(6, -1, 7), BAD ahead of BEYOND", x -> x.lay(6, -1, 7));
        for (int i : new int[] {0, -1, 48, MIN, MAX}) {
            Check.finding(Homes::full, Check.NOTHING, "lay(4, " + i + ", 7), missing, ahead of BEYOND", x -> x.lay(4, i, 7));
            Check.finding(Homes::full, Check.BEYOND, "lay(2, " + i + ", 7), of no ints", x -> x.lay(2, i, 7));
        }
        for (int i : new int[] {-1, -9, 5, 6, 47, 48, 256, -251, MIN, MAX}) {
            Check.finding(Homes::full, Check.BEYOND, "lay(0, " + i + ", 7)", x -> x.lay(0, i, 7));
        }
        for (int i : new int[] {-1, 48, 49, MAX}) {
            Check.finding(Homes::full, Check.BEYOND, "lay(5, " + i + ", 7), of 48", x -> x.lay(5, i, 7));
        }
    }

    // ---- promise 4

    private static void at() {
        Check.says(4, "Place i of a ROW, told by asked(): 1.");
        PaperRound full = Homes.full();
        int[] due = {3, -1, MAX, MIN, 8};
        for (int i = 0; i < 5; i++) {
            long before = full.digest();
            Check.told(full, "at(0, " + i + ")", full.at(0, i), due[i]);
            Check.due("digest() behind at()", full.digest(), before);
        }
        Check.told(full, "at(5, 47)", full.at(5, 47), -7);
        Check.says(4, "BAD; NOTHING; BEYOND.");
        Check.range(Homes::full, "at(r, 0)", 0, 5, (x, r) -> x.at(r, 0));
        Check.bad(Homes::full, "at(6, -1), BAD ahead of BEYOND", x -> x.at(6, -1));
        for (int i : new int[] {0, -1, 48, MIN, MAX}) {
            Check.finding(Homes::full, Check.NOTHING, "at(4, " + i + "), missing, ahead of BEYOND", x -> x.at(4, i));
            Check.finding(Homes::full, Check.BEYOND, "at(2, " + i + "), of no ints", x -> x.at(2, i));
        }
        for (int i : new int[] {-1, -9, 5, 6, 47, 48, 256, -251, MIN, MAX}) {
            Check.finding(Homes::full, Check.BEYOND, "at(0, " + i + ")", x -> x.at(0, i));
        }
        for (int i : new int[] {-1, 48, 49, MAX}) {
            Check.finding(Homes::full, Check.BEYOND, "at(5, " + i + "), of 48", x -> x.at(5, i));
        }
    }

    // ---- promise 5

    private static void tear() {
        Check.says(5, "A ROW is missing: 1.");
        for (int r = 0; r < 6; r++) {
            int n = r;
            PaperRound x = Homes.full();
            int there = x.count(7);
            boolean wasThere = r != 4;
            Check.due("tear(" + r + ")", x.tear(r), wasThere ? 1 : Check.FINDING);
            Check.due("count(7)", x.count(7), wasThere ? there - 1 : there);
            Check.finds(x, Check.NOTHING, "at(" + r + ", 0), torn", () -> x.at(n, 0));
            Check.finds(x, Check.NOTHING, "lay(" + r + ", 0, 1), torn", () -> x.lay(n, 0, 1));
            Check.finds(x, Check.NOTHING, "mean(" + r + "), torn", () -> x.mean(n));
            Check.finds(x, Check.NOTHING, "on(" + r + "), torn", () -> x.on(n));
            Check.finds(x, Check.NOTHING, "tear(" + r + "), torn", () -> x.tear(n));
            Check.due("row(" + r + ", 3), torn", x.row(r, 3), 3);
            Check.holds(x, "a row torn and anew", r, 0, 0, 0);
        }
        PaperRound y = Homes.full();
        y.tear(0);
        Check.told(y, "another row stays", y.at(5, 47), -7);
        Check.due("a card stays, whose row is torn: tear(1)", y.tear(1), 1);
        Check.due("a card stays, whose row is torn: mark(0, 1)", y.mark(0, 1), 1);
        Check.says(5, "BAD; NOTHING.");
        Check.range(Homes::full, "tear(r)", 0, 5, (x, r) -> x.tear(r));
        Check.finding(Homes::full, Check.NOTHING, "tear(4)", x -> x.tear(4));
    }

    // ---- promise 6

    private static PaperRound twoRows() {
        PaperRound x = new PaperRound();
        Check.fill(x, 0, 1, 2, 3, 4, 5);
        Check.fill(x, 1, 11, 12, 13);
        x.row(2, 0);
        return x;
    }

    private static void copy() {
        Check.says(6, "n places of a ROW, from one on, come to those of another one (perhaps itself) from one on, as if taken ahead: 1.");
        int[][] calls = {{0, 0, 3}, {2, 0, 3}, {4, 2, 1}, {0, 2, 1}, {1, 1, 2}, {0, 0, 0}, {5, 3, 0}, {5, 0, 0}, {0, 3, 0}};
        for (int[] c : calls) {
            PaperRound x = twoRows();
            int[] due = {11, 12, 13};
            for (int n = 0; n < c[2]; n++) {
                due[c[1] + n] = c[0] + n + 1;
            }
            String what = "copy(0, " + c[0] + ", 1, " + c[1] + ", " + c[2] + ")";
            int askedBefore = x.asked();
            Check.due(what, x.copy(0, c[0], 1, c[1], c[2]), 1);
            Check.due(what + ", asked() stays", x.asked(), askedBefore);
            Check.holds(x, what, 1, due);
            Check.holds(x, what + ", what was taken stays", 0, 1, 2, 3, 4, 5);
        }
        PaperRound full = new PaperRound();
        full.row(5, 48);
        full.row(3, 48);
        for (int i = 0; i < 48; i++) {
            full.lay(5, i, MIN + i);
        }
        Check.due("copy of a whole row of 48", full.copy(5, 0, 3, 0, 48), 1);
        Check.told(full, "copy of 48, first", full.at(3, 0), MIN);
        Check.told(full, "copy of 48, last", full.at(3, 47), MIN + 47);
        Check.due("copy of none between rows of none", twoRows().copy(2, 0, 2, 0, 0), 1);
    }

    private static void copyOverlaps() {
        Check.says(6, "(perhaps itself) from one on, as if taken ahead: 1.");
        for (int i = 0; i <= 5; i++) {
            for (int j = 0; j <= 5; j++) {
                for (int n = 0; n <= 5 - Math.max(i, j); n++) {
                    int[] due = {1, 2, 3, 4, 5};
                    for (int k = 0; k < n; k++) {
                        due[j + k] = i + k + 1;
                    }
                    PaperRound x = twoRows();
                    Check.due("copy into itself", x.copy(0, i, 0, j, n), 1);
                    Check.holds(x, "copy(0, " + i + ", 0, " + j + ", " + n + ")", 0, due);
                }
            }
        }
    }

    private static void copyBeyond() {
        Check.says(6, "BEYOND: not so many there (also with n 0, if i, j is below 0, or above its size).");
        int[][] of = {
            {-1, 0, 0}, {6, 0, 0}, {0, -1, 0}, {0, 4, 0}, {MIN, 0, 0}, {MAX, 0, 0}, {0, MIN, 0}, {0, MAX, 0},
            {-1, 0, 1}, {5, 0, 1}, {0, -1, 1}, {0, 3, 1}, {3, 0, 3}, {0, 1, 3}, {2, 2, 2}, {4, 0, 2}, {0, 0, 4}, {0, 0, 5},
            {0, 0, 6}, {0, 0, MAX}, {1, 0, MAX}, {0, 1, MAX}, {MAX, 0, 1}, {0, MAX, 1}, {MAX, MAX, MAX}, {MAX, 0, MAX},
            {MIN, 0, MAX}, {0, MIN, MAX}, {MIN, MIN, 1}, {-1, 0, 2}, {0, -1, 2}};
        for (int[] c : of) {
            Check.finding(EdgeRowsTest::twoRows, Check.BEYOND, "copy(0, " + c[0] + ", 1, " + c[1] + ", " + c[2] + ")",
                x -> x.copy(0, c[0], 1, c[1], c[2]));
        }
        Check.finding(EdgeRowsTest::twoRows, Check.BEYOND, "copy from a row of none", x -> x.copy(2, 0, 0, 0, 1));
        Check.finding(EdgeRowsTest::twoRows, Check.BEYOND, "copy to a row of none", x -> x.copy(0, 0, 2, 0, 1));
        Check.finding(EdgeRowsTest::twoRows, Check.BEYOND, "copy behind a row of none", x -> x.copy(2, 1, 0, 0, 0));
        Check.finding(EdgeRowsTest::twoRows, Check.BEYOND, "copy within itself", x -> x.copy(0, 1, 0, 2, 4));
        Check.finding(EdgeRowsTest::twoRows, Check.BEYOND, "copy within itself", x -> x.copy(0, 2, 0, 1, 4));
    }

    private static void copyOrder() {
        Check.says(6, "BAD; SIZE: n below 0; NOTHING: either; BEYOND:");
        Check.range(Homes::full, "copy(r, 0, 0, 0, 0)", 0, 5, (x, r) -> x.copy(r, 0, 0, 0, 0));
        Check.range(Homes::full, "copy(0, 0, to, 0, 0)", 0, 5, (x, to) -> x.copy(0, 0, to, 0, 0));
        Check.finding(Homes::full, Check.NOTHING, "NOTHING, from", x -> x.copy(4, 0, 0, 0, 0));
        Check.finding(Homes::full, Check.NOTHING, "NOTHING, to", x -> x.copy(0, 0, 4, 0, 0));
        Check.finding(Homes::full, Check.NOTHING, "NOTHING, both", x -> x.copy(4, 0, 4, 0, 0));
        Check.says(6, "(In this order.)");
        Check.bad(Homes::full, "BAD ahead of SIZE", x -> x.copy(6, 0, 0, 0, -1));
        Check.bad(Homes::full, "BAD ahead of SIZE, to", x -> x.copy(0, 0, -1, 0, -1));
        Check.bad(Homes::full, "BAD ahead of NOTHING", x -> x.copy(6, 0, 4, 0, 0));
        Check.bad(Homes::full, "BAD ahead of NOTHING, to", x -> x.copy(4, 0, 6, 0, 0));
        Check.bad(Homes::full, "BAD ahead of BEYOND", x -> x.copy(-1, -1, 0, 99, 1));
        Check.bad(Homes::full, "BAD ahead of BEYOND, to", x -> x.copy(0, 99, 6, -1, 1));
        for (int n : new int[] {-1, -9, MIN}) {
            Check.finding(Homes::full, Check.SIZE, "SIZE, n is " + n, x -> x.copy(0, 0, 5, 0, n));
            Check.finding(Homes::full, Check.SIZE, "SIZE ahead of NOTHING, n is " + n, x -> x.copy(4, 0, 0, 0, n));
            Check.finding(Homes::full, Check.SIZE, "SIZE ahead of NOTHING, to, n is " + n, x -> x.copy(0, 0, 4, 0, n));
            Check.finding(Homes::full, Check.SIZE, "SIZE ahead of BEYOND, n is " + n, x -> x.copy(0, -1, 5, 99, n));
        }
        Check.finding(Homes::full, Check.NOTHING, "NOTHING ahead of BEYOND, from", x -> x.copy(4, -1, 0, 0, 1));
        Check.finding(Homes::full, Check.NOTHING, "NOTHING ahead of BEYOND, to", x -> x.copy(0, 99, 4, 0, 1));
    }

    // ---- promise 7

    private static void meanOf(int due, int... values) {
        PaperRound x = new PaperRound();
        Check.fill(x, 3, values);
        Check.told(x, "mean of " + java.util.Arrays.toString(values), x.mean(3), due);
    }

    private static int[] many(int n, int v) {
        int[] values = new int[n];
        java.util.Arrays.fill(values, v);
        return values;
    }

    private static void mean() {
        Check.says(7, "The mean of a ROW's ints, cut, told by asked(): 1.");
        meanOf(0, 0);
        meanOf(-7, -7);
        meanOf(3, 3, 4);
        meanOf(-3, -3, -4);
        meanOf(0, 0, 1);
        meanOf(0, 0, -1);
        meanOf(0, 1, 1, 0);
        meanOf(0, -1, -1, 0);
        meanOf(1, 1, 1, 1);
        meanOf(2, 2, 3, 3);
        meanOf(-2, -2, -3, -3);
        meanOf(MAX, MAX);
        meanOf(MIN, MIN);
        meanOf(0, MIN, MAX);
        meanOf(MAX, MAX, MAX);
        meanOf(MAX - 1, MAX, MAX - 1);
        meanOf(MIN + 1, MIN, MIN + 1);
        meanOf(MAX, many(48, MAX));
        meanOf(MIN, many(48, MIN));
        meanOf(1431655764, MAX, MAX, -2);
        PaperRound x = new PaperRound();
        x.row(0, 48);
        x.lay(0, 47, 48);
        Check.told(x, "the last of 48 counts", x.mean(0), 1);
        x.lay(0, 47, 47);
        Check.told(x, "47 among 48", x.mean(0), 0);
        x.row(0, 2);
        Check.told(x, "what was behind a row's end does not count", x.mean(0), 0);
    }

    private static void meanRefused() {
        Check.says(7, "BAD; NOTHING; NOUGHT.");
        Check.range(Homes::full, "mean(r)", 0, 5, (x, r) -> x.mean(r));
        Check.finding(Homes::full, Check.NOTHING, "mean(4)", x -> x.mean(4));
        Check.finding(Homes::full, Check.NOUGHT, "mean(2)", x -> x.mean(2));
        Check.terms(0, "4 NOUGHT (shared among none)");
        Check.finding(Homes::full, Check.NOUGHT, "mean(2)", x -> x.mean(2));
    }

    // ---- promise 8

    private static void text() {
        Check.says(8, "A TEXT is there with n blanks: n.");
        for (int n : new int[] {0, 1, 2, 119, 120}) {
            PaperRound x = new PaperRound();
            Check.due("text(2, " + n + ")", x.text(2, n), n);
            Check.due("count(8)", x.count(8), 1);
            for (int i = 0; i < n; i++) {
                Check.due("put(2, " + i + ", 65), of blanks", x.put(2, i, 65), 1032);
            }
            Check.finds(x, Check.BEYOND, "put(2, " + n + ", 65)", () -> x.put(2, n, 65));
            Check.due("text(2, 120) anew", x.text(2, 120), 120);
            Check.due("its first", x.put(2, 0, 66), 1032);
            Check.due("its last", x.put(2, 119, 66), 1032);
            Check.due("count(8)", x.count(8), 1);
        }
        PaperRound x = new PaperRound();
        for (int t = 0; t < 4; t++) {
            x.text(t, 1);
            x.put(t, 0, 40 + t);
        }
        Check.due("count(8) of four texts", x.count(8), 4);
        x.text(1, 1);
        for (int t = 0; t < 4; t++) {
            Check.due("each text by itself", x.put(t, 0, 0), t == 1 ? 1032 : 1040 + t);
        }
        Check.says(8, "BAD: also n above 120;");
        Check.range(Homes::full, "text(t, 2)", 0, 3, (y, t) -> y.text(t, 2));
        for (int n : new int[] {121, 122, 128, 376, MAX}) {
            Check.bad(Homes::full, "text(0, " + n + ")", y -> y.text(0, n));
            Check.bad(Homes::full, "text(3, " + n + ")", y -> y.text(3, n));
        }
        Check.bad(Homes::full, "text(4, -1), BAD ahead of SIZE", y -> y.text(4, -1));
        Check.bad(Homes::full, "text(-1, -1), BAD ahead of SIZE", y -> y.text(-1, -1));
        Check.says(8, "SIZE: below 0.");
        for (int n : new int[] {-1, -9, MIN}) {
            Check.finding(Homes::full, Check.SIZE, "text(0, " + n + ")", y -> y.text(0, n));
            Check.finding(Homes::full, Check.SIZE, "text(3, " + n + ")", y -> y.text(3, n));
        }
    }

    // ---- promise 9

    private static void put() {
        Check.says(9, "what it was, and 1000 more.");
        PaperRound x = new PaperRound();
        x.text(0, 2);
        Check.due("put(0, 0, 9)", x.put(0, 0, 9), 1032);
        int was = 9;
        for (int v = -128; v <= 127; v++) {
            Check.due("put(0, 0, " + v + ")", x.put(0, 0, v), 1000 + was);
            was = v;
        }
        Check.due("put(0, 1, 0), the byte beside", x.put(0, 1, 0), 1032);
        Check.due("asked() is not told by put()", x.asked(), 0);
    }

    private static void putCut() {
        Check.says(9, "Byte i of a TEXT is v, cut to a byte (-128 .. 127)");
        int[][] cuts = {{127, 127}, {128, -128}, {129, -127}, {255, -1}, {256, 0}, {257, 1}, {383, 127}, {384, -128}, {-128, -128},
            {-129, 127}, {-255, 1}, {-256, 0}, {-257, -1}, {65536, 0}, {65535, -1}, {MAX, -1}, {MIN, 0}, {MIN + 1, 1}, {MAX - 1, -2}};
        PaperRound x = new PaperRound();
        x.text(3, 120);
        for (int[] c : cuts) {
            x.put(3, 119, c[0]);
            Check.due("what " + c[0] + " is cut to", x.put(3, 119, 0), 1000 + c[1]);
        }
        PaperRound p = new PaperRound();
        p.text(0, 2);
        p.put(0, 0, 'p' + 256);
        p.put(0, 1, '2' - 512);
        Check.due("a text of bytes that were cut", p.fault(0), NONE);
        p.house(0);
        Check.told(p, "a house of bytes that were cut", p.part(0, 0), 2);
    }

    private static void putRefused() {
        Check.says(9, "BAD; NOTHING; BEYOND.");
        Check.range(Homes::full, "put(t, 0, 7)", 0, 3, (x, t) -> x.put(t, 0, 7));
        Check.bad(Homes::full, "put(4, -1, 7), BAD ahead of BEYOND", x -> x.put(4, -1, 7));
        int size = Homes.HOUSE.length();
        for (int i : new int[] {-1, -9, size, size + 1, 119, 120, MIN, MAX}) {
            Check.finding(Homes::full, Check.BEYOND, "put(0, " + i + ", 7)", x -> x.put(0, i, 7));
            Check.finding(Homes::full, Check.BEYOND, "put(2, " + i + ", 7), of no bytes", x -> x.put(2, i, 7));
            Check.finding(Homes::full, Check.NOTHING, "put(3, " + i + ", 7), missing, ahead of BEYOND", x -> x.put(3, i, 7));
        }
        Check.finding(Homes::full, Check.NOTHING, "put(3, 0, 7)", x -> x.put(3, 0, 7));
        Check.finding(Homes::full, Check.BEYOND, "put(2, 0, 7)", x -> x.put(2, 0, 7));
    }
}
