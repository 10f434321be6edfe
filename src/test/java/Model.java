import java.util.ArrayList;
import java.util.Arrays;
import java.util.List;

/** All calls of the document said again as plainly as can be; what is looked for among many rows is left to Oracle. */
final class Model {
    private static final int BAD = -1, FINDING = -3, STATE = -4, SPENT = -6, NONE = -9;

    /** A text's fault. */
    private static final class Fault extends RuntimeException {
        private static final long serialVersionUID = 1;
        final int place;

        Fault(int place) {
            this.place = place;
        }
    }

    Oracle house = new Oracle();
    private final int[][] rows = new int[6][];
    private final byte[][] texts = new byte[4][];
    private final int[] kinds = new int[6];
    private final int[][] cards = new int[6][];
    private final int[] findings = new int[6];
    private int asked;
    private int finding;

    private static boolean in(int v, int low, int high) {
        return v >= low && v <= high;
    }

    private int found(int f) {
        finding = f;
        findings[f]++;
        return FINDING;
    }

    private int tell(int v) {
        asked = v;
        return 1;
    }

    private int parts() {
        return house.parts.size();
    }

    private int readers() {
        return house.readers.size();
    }

    private int wants() {
        return house.wants.size();
    }

    // ---- 1

    int row(int r, int n) {
        if (!in(r, 0, 5) || n > 48) {
            return BAD;
        }
        if (n < 0) {
            return found(5);
        }
        rows[r] = new int[n];
        return n;
    }

    int lay(int r, int i, int v) {
        int was = at(r, i);
        if (was == 1) {
            rows[r][i] = v;
        }
        return was;
    }

    int at(int r, int i) {
        if (!in(r, 0, 5)) {
            return BAD;
        }
        if (rows[r] == null) {
            return found(1);
        }
        return in(i, 0, rows[r].length - 1) ? tell(rows[r][i]) : found(2);
    }

    int tear(int r) {
        if (!in(r, 0, 5)) {
            return BAD;
        }
        if (rows[r] == null) {
            return found(1);
        }
        rows[r] = null;
        return 1;
    }

    int copy(int r, int i, int to, int j, int n) {
        if (!in(r, 0, 5) || !in(to, 0, 5)) {
            return BAD;
        }
        if (n < 0) {
            return found(5);
        }
        if (rows[r] == null || rows[to] == null) {
            return found(1);
        }
        if (i < 0 || j < 0 || (long) i + n > rows[r].length || (long) j + n > rows[to].length) {
            return found(2);
        }
        int[] taken = Arrays.copyOfRange(rows[r], i, i + n);
        for (int k = 0; k < n; k++) {
            rows[to][j + k] = taken[k];
        }
        return 1;
    }

    int mean(int r) {
        if (!in(r, 0, 5)) {
            return BAD;
        }
        if (rows[r] == null) {
            return found(1);
        }
        if (rows[r].length == 0) {
            return found(4);
        }
        long sum = Arrays.stream(rows[r]).asLongStream().sum();
        return tell((int) (sum / rows[r].length));
    }

    int text(int t, int n) {
        if (!in(t, 0, 3) || n > 120) {
            return BAD;
        }
        if (n < 0) {
            return found(5);
        }
        texts[t] = " ".repeat(n).getBytes();
        return n;
    }

    int put(int t, int i, int v) {
        if (!in(t, 0, 3)) {
            return BAD;
        }
        if (texts[t] == null) {
            return found(1);
        }
        if (!in(i, 0, texts[t].length - 1)) {
            return found(2);
        }
        int was = texts[t][i];
        texts[t][i] = (byte) v;
        return 1000 + was;
    }

    int fault(int t) {
        if (!in(t, 0, 3)) {
            return BAD;
        }
        if (texts[t] == null) {
            return found(1);
        }
        try {
            new Parser(texts[t]).whole();
            return NONE;
        } catch (Fault f) {
            return f.place;
        }
    }

    int house(int t) {
        int is = fault(t);
        if (is != NONE) {
            return is < 0 ? is : STATE;
        }
        house = new Parser(texts[t]).whole();
        house.plan = house.nothing();
        Arrays.fill(kinds, 0);
        return wants();
    }

    /** Reads a house from a text, up to its fault. */
    private static final class Parser {
        private final byte[] text;
        private final Oracle house = new Oracle();
        private int place;

        Parser(byte[] text) {
            this.text = text;
        }

        Oracle whole() {
            while (place < text.length) {
                char sign = (char) text[place];
                fail("mprnc ".indexOf(sign) < 0);
                fail(sign == 'p' && house.parts.size() == 6 || sign == 'r' && house.readers.size() == 8);
                fail(sign == 'n' && house.nots.size() == 8 || sign == 'c' && house.cushions.size() == 8);
                place++;
                switch (sign) {
                    case 'm' -> house.last = minute(1, 60);
                    case 'p' -> part();
                    case 'r' -> reader();
                    case 'n' -> not();
                    case 'c' -> cushion();
                    default -> { }
                }
            }
            return house;
        }

        private void fail(boolean fails) {
            if (fails) {
                throw new Fault(place);
            }
        }

        private boolean is(char sign) {
            return place < text.length && text[place] == sign;
        }

        private boolean may(char sign) {
            boolean is = is(sign);
            place += is ? 1 : 0;
            return is;
        }

        private void must(char sign) {
            fail(!may(sign));
        }

        private boolean atFigure() {
            return place < text.length && text[place] >= '0' && text[place] <= '9';
        }

        private int figure(int low, int high) {
            fail(!atFigure() || text[place] - '0' < low || text[place] - '0' > high);
            return text[place++] - '0';
        }

        private int minute(int low, int high) {
            int minute = figure(0, 9);
            if (atFigure()) {
                minute = 10 * minute + figure(0, 9);
            }
            fail(minute < low || minute > high);
            return minute;
        }

        private void part() {
            int n = figure(1, 2);
            int a = may(':') ? minute(0, 59) : 0;
            int f = may('s') ? figure(0, 9) : 0;
            house.parts.add(new int[] {n, a, f});
        }

        private void reader() {
            int a = minute(0, 60);
            must('-');
            int b = minute(a + 1, 60);
            must('(');
            int r = house.readers.size();
            house.readers.add(new int[] {a, b, may('!') ? 1 : 0});
            List<Integer> told = new ArrayList<>();
            do {
                fail(atFigure() && told.contains(text[place] - '0') || house.wants.size() == 24);
                int p = figure(0, house.parts.size() - 1);
                told.add(p);
                must('*');
                int minutes = minute(1, 20);
                must('=');
                house.wants.add(new Oracle.Want(r, p, minutes, figure(1, 9)));
            } while (may(','));
            must(')');
        }

        private void not() {
            int r = figure(0, house.readers.size() - 1);
            must('/');
            fail(is((char) ('0' + r)));
            int q = figure(0, house.readers.size() - 1);
            must('@');
            house.nots.add(new Oracle.Not(r, q, figure(0, house.parts.size() - 1)));
        }

        private void cushion() {
            int p = figure(0, house.parts.size() - 1);
            must('@');
            int a = minute(0, 60);
            must('-');
            house.cushions.add(new Oracle.Cushion(p, a, minute(a, 60)));
        }
    }

    private int ofPart(int p, int what) {
        return house.parts.get(p)[what];
    }

    private int ofReader(int r, int what) {
        if (what == 2) {
            int bits = 0;
            for (int w = 0; w < wants(); w++) {
                bits += house.wants.get(w).reader() == r ? 1 << w : 0;
            }
            return bits;
        }
        return house.readers.get(r)[what == 3 ? 2 : what];
    }

    private int ofWant(int w, int what) {
        Oracle.Want want = house.wants.get(w);
        int after = 0;
        for (int q = 0; q < readers(); q++) {
            after += house.notAfter(w, q) ? 1 << q : 0;
        }
        return new int[] {want.reader(), want.part(), want.minutes(), want.worth(), house.plan[w], after}[what];
    }

    int part(int p, int what) {
        return in(p, 0, parts() - 1) && in(what, 0, 2) ? tell(ofPart(p, what)) : BAD;
    }

    int reader(int r, int what) {
        return in(r, 0, readers() - 1) && in(what, 0, 3) ? tell(ofReader(r, what)) : BAD;
    }

    int want(int w, int what) {
        return in(w, 0, wants() - 1) && in(what, 0, 5) ? tell(ofWant(w, what)) : BAD;
    }

    int copies(int p, int n) {
        if (!in(p, 0, parts() - 1) || !in(n, 1, 2)) {
            return BAD;
        }
        int had = ofPart(p, 0);
        house.parts.get(p)[0] = n;
        return had;
    }

    int post(int p, int a, int f) {
        if (!in(p, 0, parts() - 1) || !in(a, 0, 59) || !in(f, 0, 9)) {
            return BAD;
        }
        house.parts.set(p, new int[] {ofPart(p, 0), a, f});
        return 1;
    }

    int late(int r, int a, int b) {
        if (!in(r, 0, readers() - 1) || !in(a, 0, 60) || !in(b, 0, 60) || a >= b) {
            return BAD;
        }
        house.readers.set(r, new int[] {a, b, ofReader(r, 3)});
        return 1;
    }

    // ---- 2

    int read(int w, int t) {
        if (!in(w, 0, wants() - 1) || !in(t, 0, 59) && t != NONE) {
            return BAD;
        }
        int was = house.plan[w];
        house.plan[w] = t;
        return was;
    }

    int judge() {
        return house.judge(house.plan);
    }

    int missed(int r) {
        return r == NONE || in(r, 0, readers() - 1) ? house.missed(house.plan, r) : BAD;
    }

    int who(int p, int t) {
        return in(p, 0, parts() - 1) && in(t, 0, 60) ? house.who(p, t) : BAD;
    }

    int can(int r, int t) {
        if (!in(r, 0, readers() - 1) || !in(t, 0, 59)) {
            return BAD;
        }
        return judge() != NONE ? STATE : house.can(r, t);
    }

    int image(int r) {
        if (!in(r, 0, 5)) {
            return BAD;
        }
        rows[r] = house.plan.clone();
        return wants();
    }

    int on(int r) {
        if (!in(r, 0, 5)) {
            return BAD;
        }
        if (rows[r] == null) {
            return found(1);
        }
        if (rows[r].length != wants()) {
            return found(5);
        }
        for (int t : rows[r]) {
            if (!in(t, 0, 59) && t != NONE) {
                return found(3);
            }
        }
        house.plan = rows[r].clone();
        return 1;
    }

    // ---- 3

    int rule(int k, int kind, int r) {
        boolean isCard = kind == 1 || kind == 2;
        if (!in(k, 0, 5) || !in(kind, 1, 5) || isCard && !in(r, 0, 5)) {
            return BAD;
        }
        if (isCard) {
            if (rows[r] == null) {
                return found(1);
            }
            if (rows[r].length != readers()) {
                return found(5);
            }
            int[] sorted = rows[r].clone();
            Arrays.sort(sorted);
            for (int i = 0; i < sorted.length; i++) {
                if (sorted[i] != i) {
                    return found(3);
                }
            }
            cards[k] = rows[r].clone();
        }
        kinds[k] = kind;
        return 1;
    }

    int mark(int k, int kind) {
        if (!in(k, 0, 5) || !in(kind, 1, 5)) {
            return BAD;
        }
        if (kinds[k] == 0) {
            return found(1);
        }
        if (kinds[k] != kind && !(kinds[k] == 2 && kind == 1)) {
            return found(3);
        }
        if (kind > 2) {
            return kind;
        }
        return readers() == 0 ? NONE : cards[k][kind == 1 ? 0 : readers() - 1];
    }

    int run(int k) {
        if (!in(k, 0, 5)) {
            return BAD;
        }
        if (kinds[k] == 0) {
            return found(1);
        }
        house.plan = house.run(kinds[k], cards[k]);
        return missed(NONE);
    }

    int best(int r) {
        if (!in(r, 0, 5)) {
            return BAD;
        }
        if (readers() > 6) {
            return SPENT;
        }
        int[] best = house.best();
        rows[r] = Arrays.copyOfRange(best, 1, best.length);
        return best[0];
    }

    // ---- 4

    int least() {
        if (wants() > 8) {
            return SPENT;
        }
        Oracle.Found least = house.least();
        house.plan = least.begins();
        return least.value();
    }

    int mend(int t) {
        if (!in(t, 0, 59)) {
            return BAD;
        }
        if (judge() != NONE) {
            return STATE;
        }
        if (house.toMend(t).size() > 8) {
            return SPENT;
        }
        Oracle.Found mended = house.mend(t);
        house.plan = mended.begins();
        return mended.value();
    }

    int soon() {
        return wants() > 8 ? SPENT : house.soon();
    }

    int even() {
        if (wants() > 8) {
            return SPENT;
        }
        Oracle.Found even = house.even();
        asked = even.missed();
        return even.value();
    }

    int bound() {
        return house.bound();
    }

    int quarrel() {
        return wants() > 8 ? SPENT : house.quarrel();
    }

    int twice() {
        if (wants() > 8) {
            return SPENT;
        }
        int[] twice = house.twice();
        asked = twice[0] == NONE ? asked : twice[1];
        return twice[0];
    }

    // ---- 5

    int asked() {
        return asked;
    }

    int count(int what) {
        switch (what) {
            case 0: return parts();
            case 1: return readers();
            case 2: return wants();
            case 3: return house.last;
            case 4: return (int) Arrays.stream(house.plan).filter(t -> t != NONE).count();
            case 5: return (int) Arrays.stream(kinds).filter(kind -> kind != 0).count();
            case 6: return (int) Arrays.stream(kinds).filter(kind -> kind == 1 || kind == 2).count();
            case 7: return (int) Arrays.stream(rows).filter(row -> row != null).count();
            case 8: return (int) Arrays.stream(texts).filter(text -> text != null).count();
            default: return BAD;
        }
    }

    int finding() {
        return finding;
    }

    int findings(int f) {
        return in(f, 1, 5) ? findings[f] : BAD;
    }

    long digest() {
        List<Integer> values = new ArrayList<>();
        for (int what = 0; what <= 8; what++) {
            values.add(count(what));
        }
        for (int i = 0; i < 3 * parts(); i++) {
            values.add(ofPart(i / 3, i % 3));
        }
        for (int i = 0; i < 4 * readers(); i++) {
            values.add(ofReader(i / 4, i % 4));
        }
        for (int i = 0; i < 6 * wants(); i++) {
            values.add(ofWant(i / 6, i % 6));
        }
        for (int k = 0; k < 6; k++) {
            values.add(kinds[k] == 0 ? -1 : kinds[k]);
            for (int i = 0; i < readers() && (kinds[k] == 1 || kinds[k] == 2); i++) {
                values.add(cards[k][i]);
            }
        }
        for (int[] row : rows) {
            values.add(row == null ? -1 : row.length);
            for (int i = 0; row != null && i < row.length; i++) {
                values.add(row[i]);
            }
        }
        for (byte[] text : texts) {
            values.add(text == null ? -1 : text.length);
            for (int i = 0; text != null && i < text.length; i++) {
                values.add((int) text[i]);
            }
        }
        long h = 17;
        for (int v : values) {
            h = 31 * h + v;
        }
        return h;
    }
}
