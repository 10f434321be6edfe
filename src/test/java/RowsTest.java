/** Promises 1 to 9: a new object, rows and texts. */
public final class RowsTest {
    public static void main(String[] args) {
        aNewObject();
        row();
        layAndAt();
        tear();
        copy();
        mean();
        text();
        put();
        Check.end();
    }

    private static void aNewObject() {
        PaperRound x = new PaperRound();
        for (int what = 0; what <= 8; what++) {
            Check.due("new, count(" + what + ")", x.count(what), what == 3 ? 60 : 0);
        }
        Check.due("new, asked()", x.asked(), 0);
        Check.due("new, finding()", x.finding(), 0);
        Check.due("new, judge()", x.judge(), Check.NONE);
        Check.due("new, missed(NONE)", x.missed(Check.NONE), 0);
        for (int f = 1; f <= 5; f++) {
            Check.due("new, findings(" + f + ")", x.findings(f), 0);
        }
        for (int r = 0; r < 6; r++) {
            int row = r;
            Check.finds(x, Check.NOTHING, "new, at(" + r + ", 0)", () -> x.at(row, 0));
            Check.finds(x, Check.NOTHING, "new, run(" + r + ")", () -> x.run(row));
        }
        for (int t = 0; t < 4; t++) {
            int text = t;
            Check.finds(x, Check.NOTHING, "new, fault(" + t + ")", () -> x.fault(text));
        }
    }

    private static void row() {
        PaperRound x = new PaperRound();
        Check.due("row(0, 48)", x.row(0, 48), 48);
        Check.due("row(5, 0)", x.row(5, 0), 0);
        Check.due("count(7)", x.count(7), 2);
        Check.told(x, "at(0, 47)", x.at(0, 47), 0);
        x.lay(0, 2, 9);
        Check.due("row(0, 3)", x.row(0, 3), 3);
        Check.holds(x, "row anew", 0, 0, 0, 0);
        x.lay(0, 1, 4);
        x.row(0, 5);
        Check.holds(x, "row larger", 0, 0, 0, 0, 0, 0);
        Check.refused(x, Check.BAD, "row(-1, 1)", () -> x.row(-1, 1));
        Check.refused(x, Check.BAD, "row(6, 1)", () -> x.row(6, 1));
        Check.refused(x, Check.BAD, "row(0, 49)", () -> x.row(0, 49));
        Check.refused(x, Check.BAD, "row(6, -1)", () -> x.row(6, -1));
        Check.refused(x, Check.FINDING, "row(0, -1)", () -> x.row(0, -1));
        Check.finds(x, Check.SIZE, "row(0, MIN)", () -> x.row(0, Integer.MIN_VALUE));
    }

    private static void layAndAt() {
        PaperRound x = new PaperRound();
        x.row(2, 3);
        Check.told(x, "lay(2, 0, 7)", x.lay(2, 0, 7), 0);
        Check.told(x, "lay(2, 0, MIN)", x.lay(2, 0, Integer.MIN_VALUE), 7);
        Check.told(x, "at(2, 0)", x.at(2, 0), Integer.MIN_VALUE);
        Check.told(x, "lay(2, 2, 5)", x.lay(2, 2, 5), 0);
        Check.holds(x, "laid", 2, Integer.MIN_VALUE, 0, 5);
        for (int r : new int[] {-1, 6, Integer.MAX_VALUE}) {
            Check.refused(x, Check.BAD, "lay(" + r + ", 0, 1)", () -> x.lay(r, 0, 1));
            Check.refused(x, Check.BAD, "at(" + r + ", 0)", () -> x.at(r, 0));
        }
        for (int i : new int[] {-1, 3, Integer.MAX_VALUE, Integer.MIN_VALUE}) {
            Check.refused(x, Check.FINDING, "lay(2, " + i + ", 1)", () -> x.lay(2, i, 1));
            Check.finds(x, Check.BEYOND, "lay(2, " + i + ", 1)", () -> x.lay(2, i, 1));
            Check.finds(x, Check.BEYOND, "at(2, " + i + ")", () -> x.at(2, i));
        }
        Check.finds(x, Check.NOTHING, "lay(3, -1, 1)", () -> x.lay(3, -1, 1));
        Check.finds(x, Check.NOTHING, "at(3, 0)", () -> x.at(3, 0));
    }

    private static void tear() {
        PaperRound x = new PaperRound();
        Check.fill(x, 1, 4, 5);
        Check.due("tear(1)", x.tear(1), 1);
        Check.due("count(7)", x.count(7), 0);
        Check.finds(x, Check.NOTHING, "at(1, 0)", () -> x.at(1, 0));
        Check.finds(x, Check.NOTHING, "tear(1)", () -> x.tear(1));
        Check.refused(x, Check.BAD, "tear(-1)", () -> x.tear(-1));
        Check.refused(x, Check.BAD, "tear(6)", () -> x.tear(6));
        x.row(1, 2);
        Check.holds(x, "there again", 1, 0, 0);
    }

    private static void copy() {
        PaperRound x = new PaperRound();
        Check.fill(x, 0, 1, 2, 3, 4, 5);
        x.row(1, 3);
        Check.due("copy(0, 1, 1, 0, 3)", x.copy(0, 1, 1, 0, 3), 1);
        Check.holds(x, "copied", 1, 2, 3, 4);
        Check.due("copy(0, 0, 0, 1, 4)", x.copy(0, 0, 0, 1, 4), 1);
        Check.holds(x, "copied up into itself", 0, 1, 1, 2, 3, 4);
        Check.due("copy(0, 2, 0, 0, 3)", x.copy(0, 2, 0, 0, 3), 1);
        Check.holds(x, "copied down into itself", 0, 2, 3, 4, 3, 4);
        Check.due("copy(0, 5, 1, 3, 0)", x.copy(0, 5, 1, 3, 0), 1);
        int max = Integer.MAX_VALUE;
        Check.refused(x, Check.BAD, "copy(6, 0, 0, 0, -1)", () -> x.copy(6, 0, 0, 0, -1));
        Check.refused(x, Check.BAD, "copy(0, 0, -1, 0, 0)", () -> x.copy(0, 0, -1, 0, 0));
        Check.finds(x, Check.SIZE, "copy(5, 0, 0, 0, -1)", () -> x.copy(5, 0, 0, 0, -1));
        Check.finds(x, Check.NOTHING, "copy(5, -1, 0, 0, 1)", () -> x.copy(5, -1, 0, 0, 1));
        Check.finds(x, Check.NOTHING, "copy(0, 0, 5, 0, 99)", () -> x.copy(0, 0, 5, 0, 99));
        int[][] beyond = {{-1, 0, 0}, {6, 0, 0}, {0, -1, 0}, {0, 4, 0}, {3, 0, 3}, {0, 1, 3}, {0, 0, 4},
            {max, 0, 1}, {1, 0, max}, {0, max, 1}, {max, max, max}};
        for (int[] b : beyond) {
            Check.refused(x, Check.FINDING, "copy beyond", () -> x.copy(0, b[0], 1, b[1], b[2]));
            Check.finds(x, Check.BEYOND, "copy beyond", () -> x.copy(0, b[0], 1, b[1], b[2]));
        }
    }

    private static void mean() {
        PaperRound x = new PaperRound();
        Check.fill(x, 0, 1, 2, 5);
        Check.told(x, "mean of 1 2 5", x.mean(0), 2);
        Check.fill(x, 0, 7);
        Check.told(x, "mean of 7", x.mean(0), 7);
        Check.fill(x, 0, -1, -2, -2);
        Check.told(x, "mean of -1 -2 -2, cut", x.mean(0), -1);
        Check.fill(x, 0, Integer.MAX_VALUE, Integer.MAX_VALUE, Integer.MAX_VALUE);
        Check.told(x, "mean of the greatest", x.mean(0), Integer.MAX_VALUE);
        Check.fill(x, 0, Integer.MIN_VALUE, Integer.MIN_VALUE);
        Check.told(x, "mean of the least", x.mean(0), Integer.MIN_VALUE);
        Check.refused(x, Check.BAD, "mean(-1)", () -> x.mean(-1));
        Check.refused(x, Check.BAD, "mean(6)", () -> x.mean(6));
        Check.finds(x, Check.NOTHING, "mean(1)", () -> x.mean(1));
        x.row(1, 0);
        Check.refused(x, Check.FINDING, "mean of none", () -> x.mean(1));
        Check.finds(x, Check.NOUGHT, "mean of none", () -> x.mean(1));
    }

    private static void text() {
        PaperRound x = new PaperRound();
        Check.due("text(3, 120)", x.text(3, 120), 120);
        Check.due("text(0, 0)", x.text(0, 0), 0);
        Check.due("count(8)", x.count(8), 2);
        Check.due("put(3, 119, 1)", x.put(3, 119, 1), 1032);
        x.text(3, 2);
        x.text(3, 120);
        Check.due("put(3, 119, 1) anew", x.put(3, 119, 1), 1032);
        Check.refused(x, Check.BAD, "text(4, 1)", () -> x.text(4, 1));
        Check.refused(x, Check.BAD, "text(-1, 1)", () -> x.text(-1, 1));
        Check.refused(x, Check.BAD, "text(0, 121)", () -> x.text(0, 121));
        Check.refused(x, Check.FINDING, "text(0, -1)", () -> x.text(0, -1));
        Check.finds(x, Check.SIZE, "text(0, -1)", () -> x.text(0, -1));
    }

    private static void put() {
        PaperRound x = new PaperRound();
        x.text(1, 2);
        Check.due("put 127", x.put(1, 0, 127), 1032);
        Check.due("put 128", x.put(1, 0, 128), 1127);
        Check.due("put -129", x.put(1, 0, -129), 872);
        Check.due("put 511", x.put(1, 0, 511), 1127);
        Check.due("put 0", x.put(1, 0, 0), 999);
        Check.refused(x, Check.BAD, "put(4, 0, 1)", () -> x.put(4, 0, 1));
        Check.refused(x, Check.BAD, "put(-1, 0, 1)", () -> x.put(-1, 0, 1));
        Check.finds(x, Check.NOTHING, "put(0, 0, 1)", () -> x.put(0, 0, 1));
        Check.finds(x, Check.BEYOND, "put(1, 2, 1)", () -> x.put(1, 2, 1));
        Check.refused(x, Check.FINDING, "put(1, -1, 1)", () -> x.put(1, -1, 1));
    }
}
