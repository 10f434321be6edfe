/** Runs of any calls, up to 512 of them on an object, each answer held against the Model's. */
public final class ModelTest {
    private static final int[] EDGES = {Integer.MIN_VALUE, -257, -129, -128, -10, -9, -8, -2, -1, 0, 1, 2, 5, 6, 7, 8, 9, 23, 24, 31, 32,
        47, 48, 49, 58, 59, 60, 61, 64, 119, 120, 121, 127, 128, 255, 256, Integer.MAX_VALUE};
    private static final String SIGNS = "mprnc :s-(!,*=)/@0123456789";

    private static Maker maker;
    private static PaperRound x;
    private static Model m;
    private static int calls;
    private static String name;
    private static String last;

    public static void main(String[] args) {
        int more = args.length > 0 ? Integer.parseInt(args[0]) : 1;
        long seed = args.length > 1 ? Long.parseLong(args[1]) : 1;
        for (int n = 0; n < 500 * more; n++) {
            maker = new Maker(seed * 7000003 + n);
            name = "run " + n + ", call ";
            oneRun();
        }
        for (int n = 0; n < 6000 * more; n++) {
            maker = new Maker(-seed * 7000003 - n);
            name = "changed text " + n + ", call ";
            changedTexts();
        }
        Check.end();
    }

    /** Texts of houses with signs changed, left out and put in: their faults. */
    private static void changedTexts() {
        x = new PaperRound();
        m = new Model();
        calls = 0;
        maker.make(24);
        StringBuilder text = new StringBuilder(maker.text);
        for (int t = 0; t < 3; t++) {
            last = "text";
            due(x.text(t, text.length()), m.text(t, text.length()));
            for (int i = 0; i < text.length(); i++) {
                x.put(t, i, text.charAt(i));
                m.put(t, i, text.charAt(i));
                calls++;
            }
            last = "fault of " + text;
            due(x.fault(t), m.fault(t));
            last = "house of " + text;
            due(x.house(t), m.house(t));
            change(text);
        }
    }

    private static void change(StringBuilder text) {
        for (int n = maker.among(1, 3); n > 0 && text.length() > 0; n--) {
            int i = maker.upTo(text.length() - 1);
            char sign = maker.oneIn(2) ? (char) ('0' + maker.upTo(9)) : SIGNS.charAt(maker.upTo(SIGNS.length() - 1));
            switch (maker.upTo(4)) {
                case 0 -> text.deleteCharAt(i);
                case 1 -> text.insert(i, sign);
                case 2 -> text.setLength(i);
                default -> text.setCharAt(i, sign);
            }
        }
        text.setLength(Math.min(120, text.length()));
    }

    private static void oneRun() {
        x = new PaperRound();
        m = new Model();
        calls = 0;
        while (calls < 512) {
            if (calls < 380 && maker.oneIn(calls == 0 ? 2 : 60)) {
                newHouse();
            } else {
                one(maker.upTo(38));
            }
        }
    }

    private static void due(long got, long want) {
        calls++;
        Check.due(name + calls + ", " + last, got, want);
        if (calls > 510) {
            return;
        }
        if (maker.oneIn(4)) {
            calls++;
            Check.due(name + calls + ", asked() behind " + last, x.asked(), m.asked());
        } else if (maker.oneIn(12)) {
            calls++;
            Check.due(name + calls + ", digest() behind " + last, x.digest(), m.digest());
        }
    }

    /** A house told by a text, now and then with a byte that is changed, or of too many wants. */
    private static void newHouse() {
        maker.make(maker.oneIn(6) ? 24 : 5);
        int t = maker.upTo(3);
        String text = maker.text;
        last = "text";
        due(x.text(t, text.length()), m.text(t, text.length()));
        for (int i = 0; i < text.length(); i++) {
            last = "put(" + t + ", " + i + ", " + (int) text.charAt(i) + ")";
            due(x.put(t, i, text.charAt(i)), m.put(t, i, text.charAt(i)));
        }
        for (int n = maker.oneIn(3) ? maker.among(1, 2) : 0; n > 0; n--) {
            int i = maker.upTo(text.length());
            int sign = maker.oneIn(9) ? maker.upTo(255) : SIGNS.charAt(maker.upTo(SIGNS.length() - 1));
            last = "put(" + t + ", " + i + ", " + sign + ")";
            due(x.put(t, i, sign), m.put(t, i, sign));
        }
        last = "fault(" + t + ") of " + text;
        due(x.fault(t), m.fault(t));
        last = "house(" + t + ") of " + text;
        due(x.house(t), m.house(t));
    }

    /** A number that mostly is one. */
    private static int upTo(int n) {
        return maker.oneIn(12) ? EDGES[maker.upTo(EDGES.length - 1)] : maker.upTo(Math.max(0, n));
    }

    private static int minute() {
        return maker.oneIn(6) ? Check.NONE : upTo(maker.oneIn(2) ? 20 : 60);
    }

    private static boolean isDear() {
        return m.count(2) > 5 && m.count(2) < 9;
    }

    private static void one(int which) {
        last = "call " + which;
        switch (which) {
            case 0, 1, 2, 3, 4, 5, 6, 7, 8, 9 -> rowsAndTexts(which);
            case 10, 11, 12, 13, 14, 15 -> houses(which);
            case 16, 17, 18, 19, 20, 21, 22 -> plans(which);
            case 23, 24, 25, 26 -> rules(which);
            case 27, 28, 29, 30, 31, 32, 33 -> sequences(which);
            default -> told(which);
        }
    }

    private static void rowsAndTexts(int which) {
        int r = upTo(5);
        int i = upTo(6);
        int v = maker.oneIn(2) ? minute() : upTo(7);
        int n = upTo(maker.oneIn(2) ? m.count(2) : m.count(1));
        last += " of " + r + ", " + i + ", " + v + ", " + n;
        switch (which) {
            case 0 -> due(x.row(r, n), m.row(r, n));
            case 1, 2 -> due(x.lay(r, i, v), m.lay(r, i, v));
            case 3 -> due(x.at(r, i), m.at(r, i));
            case 4 -> {
                if (maker.oneIn(4)) {
                    due(x.tear(r), m.tear(r));
                }
            }
            case 5 -> {
                int to = upTo(5);
                int j = upTo(4);
                int many = upTo(3);
                last += ", copy to " + to + ", " + j + ", " + many;
                due(x.copy(r, i, to, j, many), m.copy(r, i, to, j, many));
            }
            case 6 -> due(x.mean(r), m.mean(r));
            case 7 -> due(x.text(r, i), m.text(r, i));
            case 8 -> {
                int sign = maker.oneIn(3) ? v : SIGNS.charAt(maker.upTo(SIGNS.length() - 1));
                due(x.put(r, i, sign), m.put(r, i, sign));
            }
            default -> due(x.fault(r), m.fault(r));
        }
    }

    private static void houses(int which) {
        int p = upTo(m.count(0) - 1);
        int r = upTo(m.count(1) - 1);
        int w = upTo(m.count(2) - 1);
        int what = upTo(6);
        int a = upTo(20);
        int b = a > 60 ? a : a + upTo(40);
        last += " of " + p + ", " + r + ", " + w + ", " + what + ", " + a + ", " + b;
        switch (which) {
            case 10 -> due(x.part(p, what), m.part(p, what));
            case 11 -> due(x.reader(r, what), m.reader(r, what));
            case 12 -> due(x.want(w, what), m.want(w, what));
            case 13 -> due(x.copies(p, what / 2), m.copies(p, what / 2));
            case 14 -> due(x.post(p, a, what), m.post(p, a, what));
            default -> due(x.late(r, a, b), m.late(r, a, b));
        }
    }

    private static void plans(int which) {
        int p = upTo(m.count(0) - 1);
        int r = maker.oneIn(5) ? Check.NONE : upTo(m.count(1) - 1);
        int w = upTo(m.count(2) - 1);
        int t = minute();
        int row = upTo(5);
        last += " of " + p + ", " + r + ", " + w + ", " + t + ", " + row;
        switch (which) {
            case 16 -> due(x.read(w, t), m.read(w, t));
            case 17 -> due(x.judge(), m.judge());
            case 18 -> due(x.missed(r), m.missed(r));
            case 19 -> due(x.who(p, t), m.who(p, t));
            case 20 -> due(x.can(r, t), m.can(r, t));
            case 21 -> due(x.image(row), m.image(row));
            default -> due(x.on(row), m.on(row));
        }
    }

    private static void rules(int which) {
        int k = upTo(5);
        int kind = upTo(6);
        int r = upTo(5);
        last += " of " + k + ", " + kind + ", " + r;
        switch (which) {
            case 23 -> {
                if (maker.oneIn(2)) {
                    card(r);
                }
                due(x.rule(k, kind, r), m.rule(k, kind, r));
            }
            case 24 -> due(x.mark(k, kind), m.mark(k, kind));
            case 25 -> due(x.run(k), m.run(k));
            default -> {
                if (m.count(1) < 6 || m.count(1) > 6) {
                    due(x.best(r), m.best(r));
                }
            }
        }
    }

    /** Lays a card of all readers into a row. */
    private static void card(int r) {
        int n = m.count(1);
        int first = maker.upTo(Math.max(0, n - 1));
        due(x.row(r, n), m.row(r, n));
        for (int i = 0; i < n; i++) {
            int reader = (first + i) % n;
            due(x.lay(r, i, reader), m.lay(r, i, reader));
        }
    }

    private static void sequences(int which) {
        int t = minute();
        last += " of " + t;
        if (isDear()) {
            return;
        }
        switch (which) {
            case 27 -> due(x.least(), m.least());
            case 28 -> {
                if (m.house.toMend(t).size() < 6 || m.house.toMend(t).size() > 8) {
                    due(x.mend(t), m.mend(t));
                }
            }
            case 29 -> due(x.soon(), m.soon());
            case 30 -> due(x.even(), m.even());
            case 31 -> due(x.bound(), m.bound());
            case 32 -> due(x.quarrel(), m.quarrel());
            default -> due(x.twice(), m.twice());
        }
    }

    private static void told(int which) {
        int n = upTo(9);
        last += " of " + n;
        switch (which) {
            case 34 -> due(x.asked(), m.asked());
            case 35 -> due(x.count(n), m.count(n));
            case 36 -> due(x.finding(), m.finding());
            case 37 -> due(x.findings(n), m.findings(n));
            default -> due(x.digest(), m.digest());
        }
    }
}
