import java.util.ArrayList;
import java.util.Arrays;
import java.util.List;

/** Holds the program against the oracle, over many made houses. */
public final class OracleTest {
    private static final List<Check.Call> changes = new ArrayList<>();
    private static String name;

    public static void main(String[] args) {
        int more = args.length > 0 ? Integer.parseInt(args[0]) : 1;
        long seed = args.length > 1 ? Long.parseLong(args[1]) : 1;
        for (int n = 0; n < 3000 * more; n++) {
            oneHouse(new Maker(seed * 1000003 + n), 5, "small " + n);
        }
        for (int n = 0; n < 25 * more; n++) {
            oneHouse(new Maker(-seed * 1000003 - n), 8, "eight " + n);
        }
        for (int n = 0; n < 300 * more; n++) {
            oneHouse(new Maker(seed * 2000003 + n), 24, "large " + n);
        }
        Check.end();
    }

    /** Each look begins with a new object, since one is used for 512 calls at most. */
    private static void oneHouse(Maker m, int mostWants, String title) {
        m.make(mostWants);
        name = title + " '" + m.text + "' ";
        changes.clear();
        face(anew(m), m.oracle);
        change(m);
        PaperRound x = anew(m);
        rules(x, m);
        best(x, m.oracle);
        sequences(anew(m), m.oracle);
        for (int n = 0; n < 4; n++) {
            PaperRound planned = anew(m);
            tellPlan(planned, m, n);
            look(planned, m);
            mend(planned, m);
        }
    }

    private static PaperRound anew(Maker m) {
        PaperRound x = new PaperRound();
        Check.write(x, 0, m.text);
        due("fault", x.fault(0), Check.NONE);
        due("house", x.house(0), m.oracle.wants.size());
        for (Check.Call change : changes) {
            due("change", change.on(x), 1);
        }
        return x;
    }

    private static void due(String what, long got, long want) {
        Check.due(name + what, got, want);
    }

    private static void told(PaperRound x, String what, int answer, int told) {
        due(what, answer, 1);
        due(what, x.asked(), told);
    }

    private static void plan(PaperRound x, String what, int[] begins) {
        for (int w = 0; w < begins.length; w++) {
            told(x, what + ", begin of " + w, x.want(w, 4), begins[w]);
        }
    }

    private static void face(PaperRound x, Oracle o) {
        due("count(0)", x.count(0), o.parts.size());
        due("count(1)", x.count(1), o.readers.size());
        due("count(3)", x.count(3), o.last);
        for (int p = 0; p < o.parts.size(); p++) {
            for (int what = 0; what < 3; what++) {
                told(x, "part", x.part(p, what), o.parts.get(p)[what]);
            }
        }
        int[] bits = new int[o.readers.size()];
        for (int w = 0; w < o.wants.size(); w++) {
            Oracle.Want want = o.wants.get(w);
            bits[want.reader()] |= 1 << w;
            int after = 0;
            for (int q = 0; q < o.readers.size(); q++) {
                after |= o.notAfter(w, q) ? 1 << q : 0;
            }
            int[] dues = {want.reader(), want.part(), want.minutes(), want.worth(), Check.NONE, after};
            for (int what = 0; what < 6; what++) {
                told(x, "want " + w, x.want(w, what), dues[what]);
            }
        }
        for (int r = 0; r < o.readers.size(); r++) {
            int[] reader = o.readers.get(r);
            int[] dues = {reader[0], reader[1], bits[r], reader[2]};
            for (int what = 0; what < 4; what++) {
                told(x, "reader " + r, x.reader(r, what), dues[what]);
            }
        }
    }

    private static void change(Maker m) {
        Oracle o = m.oracle;
        if (o.readers.isEmpty() || !m.oneIn(3)) {
            return;
        }
        int p = m.upTo(o.parts.size() - 1);
        int had = o.parts.get(p)[0];
        int n = m.among(1, 2);
        changes.add(x -> x.copies(p, n) == had ? 1 : 0);
        int a = m.upTo(20);
        int f = m.upTo(9);
        changes.add(x -> x.post(p, a, f));
        o.parts.set(p, new int[] {n, a, f});
        int r = m.upTo(o.readers.size() - 1);
        int in = m.upTo(30);
        int till = m.among(in + 1, 60);
        changes.add(x -> x.late(r, in, till));
        o.readers.set(r, new int[] {in, till, o.readers.get(r)[2]});
    }

    private static void rules(PaperRound x, Maker m) {
        int n = m.oracle.readers.size();
        int[] card = new int[n];
        for (int i = 0; i < n; i++) {
            card[i] = i;
        }
        for (int i = n - 1; i > 0; i--) {
            int j = m.upTo(i);
            int reader = card[i];
            card[i] = card[j];
            card[j] = reader;
        }
        Check.fill(x, 0, card);
        for (int kind = 1; kind <= 5; kind++) {
            due("rule " + kind, x.rule(kind, kind, 0), 1);
            int[] begins = m.oracle.run(kind, card);
            due("run " + kind + " " + Arrays.toString(card), x.run(kind), m.oracle.missed(begins, Check.NONE));
            plan(x, "run " + kind, begins);
            due("run " + kind + ", judge", x.judge(), Check.NONE);
        }
    }

    private static void best(PaperRound x, Oracle o) {
        if (o.readers.size() > 6) {
            due("best", x.best(1), Check.SPENT);
        } else if (o.readers.size() < 6) {
            int[] best = o.best();
            due("best", x.best(1), best[0]);
            for (int i = 0; i + 1 < best.length; i++) {
                told(x, "best card", x.at(1, i), best[i + 1]);
            }
        }
    }

    private static void sequences(PaperRound x, Oracle o) {
        if (o.wants.size() > 8) {
            due("least", x.least(), Check.SPENT);
            due("soon", x.soon(), Check.SPENT);
            due("even", x.even(), Check.SPENT);
            due("quarrel", x.quarrel(), Check.SPENT);
            due("twice", x.twice(), Check.SPENT);
            due("bound", x.bound(), o.bound());
            return;
        }
        Oracle.Found least = o.least();
        due("least", x.least(), least.value());
        plan(x, "least", least.begins());
        due("least, judge", x.judge(), Check.NONE);
        due("soon", x.soon(), o.soon());
        Oracle.Found even = o.even();
        due("even", x.even(), even.value());
        due("even, asked", x.asked(), even.missed());
        due("bound", x.bound(), o.bound());
        due("quarrel", x.quarrel(), o.quarrel());
        int[] twice = o.twice();
        due("twice", x.twice(), twice[0]);
        due("twice, asked", x.asked(), twice[0] == Check.NONE ? even.missed() : twice[1]);
        plan(x, "the plan stays", least.begins());
    }

    /** A plan as a rule makes it, changed a little or much; or one of any beginnings. */
    private static void tellPlan(PaperRound x, Maker m, int n) {
        Oracle o = m.oracle;
        int[] begins = n == 3 ? o.nothing() : o.run(3 + n, null);
        for (int w = 0; w < begins.length; w++) {
            if (n == 3 ? m.oneIn(3) : m.oneIn(5)) {
                begins[w] = m.oneIn(3) ? Check.NONE : m.oneIn(2) || begins[w] == Check.NONE ? m.upTo(59)
                    : Math.max(0, Math.min(59, begins[w] + m.among(-2, 2)));
            }
        }
        for (int w = 0; w < begins.length; w++) {
            int old = begins[w];
            x.read(w, m.upTo(59));
            x.read(w, old);
        }
        o.plan = begins;
        plan(x, "told", begins);
    }

    private static void look(PaperRound x, Maker m) {
        Oracle o = m.oracle;
        int wrong = o.judge(o.plan);
        due("judge " + Arrays.toString(o.plan), x.judge(), wrong);
        due("missed of all", x.missed(Check.NONE), o.missed(o.plan, Check.NONE));
        for (int r = 0; r < o.readers.size(); r++) {
            due("missed of " + r, x.missed(r), o.missed(o.plan, r));
            int t = m.upTo(59);
            due("can " + Arrays.toString(o.plan), x.can(r, t), wrong == Check.NONE ? o.can(r, t) : Check.STATE);
        }
        for (int p = 0; p < o.parts.size(); p++) {
            int t = m.upTo(60);
            due("who " + Arrays.toString(o.plan), x.who(p, t), o.who(p, t));
        }
    }

    private static void mend(PaperRound x, Maker m) {
        Oracle o = m.oracle;
        int t = m.upTo(m.oneIn(2) ? 20 : 59);
        String what = "mend(" + t + ") of " + Arrays.toString(o.plan);
        if (o.judge(o.plan) != Check.NONE) {
            due(what, x.mend(t), Check.STATE);
        } else if (o.toMend(t).size() > 8) {
            due(what, x.mend(t), Check.SPENT);
        } else if (o.toMend(t).size() < 7) {
            Oracle.Found found = o.mend(t);
            due(what, x.mend(t), found.value());
            plan(x, what, found.begins());
        }
    }
}
