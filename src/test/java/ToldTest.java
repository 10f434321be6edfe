/** Promises 36 to 40: what was asked, counts, findings, the digest. */
public final class ToldTest {
    private static final String A = "m40 p1s2 p2:5 r0-30(!0*5=6,1*10=4) r10-40(0*10=9) n1/0@0 c0@20-22";

    public static void main(String[] args) {
        asked();
        askedStays();
        count();
        findings();
        digestOfNew();
        digest();
        digestOfBytes();
        Check.end();
    }

    private static void asked() {
        PaperRound x = Check.house(A);
        Check.due("asked() ahead", x.asked(), 0);
        Check.fill(x, 0, 4, 8);
        Check.told(x, "lay", x.lay(0, 0, 6), 4);
        Check.told(x, "at", x.at(0, 1), 8);
        Check.told(x, "mean", x.mean(0), 7);
        Check.told(x, "part", x.part(1, 1), 5);
        Check.told(x, "reader", x.reader(1, 1), 40);
        Check.told(x, "want", x.want(2, 3), 9);
        Check.due("even", x.even(), 8);
        Check.due("even, asked()", x.asked(), 10);
        x.want(0, 4);
        Check.due("twice", x.twice(), 0);
        Check.due("twice, asked()", x.asked(), 4);
    }

    private static void askedStays() {
        PaperRound x = Check.house(A);
        Check.fill(x, 0, 4, 8);
        x.at(0, 1);
        x.at(0, 2);
        x.at(9, 0);
        x.mean(5);
        x.part(2, 0);
        x.reader(2, 0);
        x.want(3, 0);
        x.lay(0, -1, 0);
        x.copies(0, 2);
        x.copies(1, 2);
        x.twice();
        x.least();
        x.mend(0);
        x.soon();
        x.bound();
        x.quarrel();
        x.best(1);
        x.image(2);
        x.judge();
        x.missed(0);
        x.digest();
        x.count(0);
        Check.due("asked() stays", x.asked(), 8);
    }

    private static void count() {
        PaperRound x = Check.house(A);
        x.read(1, 0);
        x.read(2, 59);
        Check.fill(x, 4, 1, 0);
        x.rule(0, 1, 4);
        x.rule(3, 2, 4);
        x.rule(5, 4, 4);
        x.row(0, 0);
        x.text(3, 0);
        int[] due = {2, 2, 3, 40, 2, 3, 2, 2, 2};
        for (int what = 0; what < 9; what++) {
            Check.due("count(" + what + ")", x.count(what), due[what]);
        }
        x.tear(0);
        Check.due("count(7), torn", x.count(7), 1);
        x.house(0);
        int[] anew = {2, 2, 3, 40, 0, 0, 0, 1, 2};
        for (int what = 0; what < 9; what++) {
            Check.due("count(" + what + ") of a house anew", x.count(what), anew[what]);
        }
        for (int what : new int[] {-1, 9, Integer.MAX_VALUE}) {
            Check.refused(x, Check.BAD, "count(" + what + ")", () -> x.count(what));
        }
    }

    private static void findings() {
        PaperRound x = new PaperRound();
        Check.due("finding() ahead", x.finding(), 0);
        x.at(0, 0);
        x.at(0, 0);
        x.row(0, 0);
        x.at(0, 0);
        x.mean(0);
        x.row(1, -1);
        Check.due("finding()", x.finding(), Check.SIZE);
        x.row(1, 49);
        x.row(1, 1);
        Check.due("finding() stays", x.finding(), Check.SIZE);
        int[] due = {2, 1, 0, 1, 1};
        for (int f = 1; f <= 5; f++) {
            Check.due("findings(" + f + ")", x.findings(f), due[f - 1]);
        }
        x.rule(0, 3, 0);
        x.mark(0, 4);
        Check.due("finding() of another kind", x.finding(), Check.UNLIKE);
        Check.due("findings(3)", x.findings(3), 1);
        for (int f : new int[] {0, 6, -1}) {
            Check.refused(x, Check.BAD, "findings(" + f + ")", () -> x.findings(f));
        }
        x.text(0, 1);
        x.put(0, 0, 'x');
        x.house(0);
        Check.due("STATE is no finding", x.finding(), Check.UNLIKE);
    }

    private static void digestOfNew() {
        long h = 17;
        long[] values = {0, 0, 0, 60, 0, 0, 0, 0, 0, -1, -1, -1, -1, -1, -1, -1, -1, -1, -1, -1, -1, -1, -1, -1, -1};
        for (long v : values) {
            h = 31 * h + v;
        }
        Check.due("digest() of a new object", new PaperRound().digest(), h);
    }

    /** The digest by the calls that it names, with the kinds (0: missing) and texts told beside. */
    private static long digestByCalls(PaperRound x, int[] kinds, int[][] cards, int[] rowSizes, byte[][] texts) {
        long h = 17;
        for (int what = 0; what <= 8; what++) {
            h = 31 * h + x.count(what);
        }
        for (int p = 0; p < x.count(0); p++) {
            for (int what = 0; what <= 2; what++) {
                x.part(p, what);
                h = 31 * h + x.asked();
            }
        }
        for (int r = 0; r < x.count(1); r++) {
            for (int what = 0; what <= 3; what++) {
                x.reader(r, what);
                h = 31 * h + x.asked();
            }
        }
        for (int w = 0; w < x.count(2); w++) {
            for (int what = 0; what <= 5; what++) {
                x.want(w, what);
                h = 31 * h + x.asked();
            }
        }
        for (int k = 0; k < 6; k++) {
            h = 31 * h + (kinds[k] == 0 ? -1 : kinds[k]);
            for (int i = 0; i < cards[k].length; i++) {
                h = 31 * h + cards[k][i];
            }
        }
        for (int r = 0; r < 6; r++) {
            h = 31 * h + rowSizes[r];
            for (int i = 0; i < rowSizes[r]; i++) {
                x.at(r, i);
                h = 31 * h + x.asked();
            }
        }
        for (byte[] text : texts) {
            h = 31 * h + (text == null ? -1 : text.length);
            for (int i = 0; text != null && i < text.length; i++) {
                h = 31 * h + text[i];
            }
        }
        return h;
    }

    private static void digest() {
        PaperRound x = Check.house(A);
        Check.fill(x, 4, 1, 0);
        Check.fill(x, 1, Integer.MIN_VALUE, 5, -9);
        x.row(2, 0);
        x.rule(0, 1, 4);
        x.rule(2, 2, 4);
        x.rule(3, 3, 0);
        x.rule(4, 5, 0);
        x.read(0, 3);
        x.read(2, 23);
        x.copies(0, 2);
        x.post(1, 7, 4);
        x.late(0, 2, 33);
        int[] kinds = {1, 0, 2, 3, 5, 0};
        int[][] cards = {{1, 0}, {}, {1, 0}, {}, {}, {}};
        byte[] text = A.getBytes(java.nio.charset.StandardCharsets.ISO_8859_1);
        long due = digestByCalls(x, kinds, cards, new int[] {-1, 3, 0, -1, 2, -1}, new byte[][] {text, null, null, null});
        int askedBefore = x.asked();
        Check.due("digest()", x.digest(), due);
        Check.due("digest() leaves asked()", x.asked(), askedBefore);
    }

    private static void digestOfBytes() {
        PaperRound x = new PaperRound();
        x.text(1, 3);
        x.put(1, 0, 200);
        x.put(1, 2, -128);
        byte[][] texts = {null, {-56, 32, -128}, null, null};
        int[] missing = {-1, -1, -1, -1, -1, -1};
        Check.due("digest() of bytes", x.digest(), digestByCalls(x, new int[6], new int[6][0], missing, texts));
    }
}
