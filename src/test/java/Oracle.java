import java.util.ArrayList;
import java.util.Arrays;
import java.util.List;

/** The document's words said again as plainly as can be, without any short cut, to be held against the program. */
final class Oracle {
    static final int NONE = -9;
    static final int CARD = 1, HOLD = 2, NEXT = 3, DEAR = 4, SHORT = 5;

    record Want(int reader, int part, int minutes, int worth) { }
    record Not(int reader, int after, int part) { }
    record Cushion(int part, int a, int b) { }
    /** What a look at all sequences told: the value, the missed of the first such, its beginnings. */
    record Found(int value, int missed, int[] begins) { }

    interface Value {
        /** What is to be least; null, if this row has no value. */
        Integer of(List<Integer> row, int[] begins);
    }

    int last = 60;
    final List<int[]> parts = new ArrayList<>();
    final List<int[]> readers = new ArrayList<>();
    final List<Want> wants = new ArrayList<>();
    final List<Not> nots = new ArrayList<>();
    final List<Cushion> cushions = new ArrayList<>();
    int[] plan = new int[0];

    int[] nothing() {
        int[] begins = new int[wants.size()];
        Arrays.fill(begins, NONE);
        return begins;
    }

    // ---- plans

    boolean reads(int[] begins, int w, int t) {
        return begins[w] != NONE && t >= begins[w] && t < begins[w] + wants.get(w).minutes;
    }

    boolean cushioned(int p, int t) {
        for (Cushion c : cushions) {
            if (c.part == p && t >= c.a && t <= c.b) {
                return true;
            }
        }
        return false;
    }

    boolean notAfter(int w, int reader) {
        return nots.contains(new Not(wants.get(w).reader, reader, wants.get(w).part));
    }

    boolean goesIn(int[] begins, int t) {
        for (int p = 0; p < parts.size(); p++) {
            int reading = 0;
            for (int w = 0; w < wants.size(); w++) {
                reading += wants.get(w).part == p && reads(begins, w, t) ? 1 : 0;
            }
            if (reading > parts.get(p)[0]) {
                return false;
            }
        }
        for (int r = 0; r < readers.size(); r++) {
            int reading = 0;
            for (int w = 0; w < wants.size(); w++) {
                reading += wants.get(w).reader == r && reads(begins, w, t) ? 1 : 0;
            }
            if (reading > 1) {
                return false;
            }
        }
        for (int w = 0; w < wants.size(); w++) {
            int[] reader = readers.get(wants.get(w).reader);
            int p = wants.get(w).part;
            if (reads(begins, w, t)) {
                if (t < reader[0] || t >= reader[1] || t >= last || t < parts.get(p)[1] || cushioned(p, t)) {
                    return false;
                }
            }
            if (begins[w] != t) {
                continue;
            }
            for (int x = 0; x < wants.size(); x++) {
                boolean ahead = x < w && wants.get(x).reader == wants.get(w).reader && reader[2] == 1;
                if (ahead && (begins[x] == NONE || begins[x] + wants.get(x).minutes > t)) {
                    return false;
                }
                boolean rival = wants.get(x).part == p && notAfter(w, wants.get(x).reader);
                if (rival && begins[x] != NONE && begins[x] < t) {
                    return false;
                }
            }
        }
        return true;
    }

    int judge(int[] begins) {
        for (int t = 0; t < 100; t++) {
            if (!goesIn(begins, t)) {
                return t;
            }
        }
        return NONE;
    }

    int worth(int w, int t) {
        int worth = wants.get(w).worth;
        for (int ten = 10; ten <= t; ten += 10) {
            worth -= parts.get(wants.get(w).part)[2];
        }
        return worth < 0 ? 0 : worth;
    }

    int missed(int[] begins, int r) {
        int sum = 0;
        for (int w = 0; w < wants.size(); w++) {
            if (r == NONE || wants.get(w).reader == r) {
                sum += wants.get(w).worth;
                sum -= begins[w] == NONE ? 0 : worth(w, begins[w]);
            }
        }
        return sum;
    }

    int who(int p, int t) {
        int bits = 0;
        for (int w = 0; w < wants.size(); w++) {
            if (wants.get(w).part == p && reads(plan, w, t)) {
                bits |= 1 << wants.get(w).reader;
            }
        }
        return bits;
    }

    int can(int r, int t) {
        int bits = 0;
        for (int w = 0; w < wants.size(); w++) {
            if (wants.get(w).reader == r && plan[w] == NONE) {
                int[] with = plan.clone();
                with[w] = t;
                bits |= judge(with) == NONE ? 1 << w : 0;
            }
        }
        return bits;
    }

    // ---- rules

    private boolean allRead(int[] begins, int r, int t) {
        for (int w = 0; w < wants.size(); w++) {
            if (wants.get(w).reader == r && (begins[w] == NONE || begins[w] + wants.get(w).minutes > t)) {
                return false;
            }
        }
        return true;
    }

    private boolean copyFree(int[] begins, int p, int t, boolean hold) {
        int taken = 0;
        for (int w = 0; w < wants.size(); w++) {
            if (wants.get(w).part == p && begins[w] != NONE) {
                int r = wants.get(w).reader;
                boolean kept = hold && t < readers.get(r)[1] && !allRead(begins, r, t);
                taken += t < begins[w] + wants.get(w).minutes || kept ? 1 : 0;
            }
        }
        return taken < parts.get(p)[0];
    }

    private boolean mayBegin(int[] begins, int w, int t, boolean hold) {
        Want want = wants.get(w);
        int[] reader = readers.get(want.reader);
        if (begins[w] != NONE || t < reader[0] || t + want.minutes > reader[1] || t + want.minutes > last) {
            return false;
        }
        for (int x = 0; x < wants.size(); x++) {
            boolean same = wants.get(x).reader == want.reader;
            if (same && reads(begins, x, t)) {
                return false;
            }
            if (same && x < w && reader[2] == 1 && (begins[x] == NONE || begins[x] + wants.get(x).minutes > t)) {
                return false;
            }
            boolean rival = wants.get(x).part == want.part && notAfter(w, wants.get(x).reader);
            if (rival && begins[x] != NONE && begins[x] < t) {
                return false;
            }
        }
        for (int m = t; m < t + want.minutes; m++) {
            if (cushioned(want.part, m)) {
                return false;
            }
        }
        return t >= parts.get(want.part)[1] && copyFree(begins, want.part, t, hold);
    }

    private int since(int[] begins, int r) {
        int since = readers.get(r)[0];
        for (int w = 0; w < wants.size(); w++) {
            if (wants.get(w).reader == r && begins[w] != NONE) {
                since = Math.max(since, begins[w] + wants.get(w).minutes);
            }
        }
        return since;
    }

    private int pick(int[] begins, int kind, int[] card, int t) {
        List<Integer> may = new ArrayList<>();
        for (int w = 0; w < wants.size(); w++) {
            if (mayBegin(begins, w, t, kind == HOLD)) {
                may.add(w);
            }
        }
        if (may.isEmpty()) {
            return NONE;
        }
        if (kind == CARD || kind == HOLD) {
            for (int r : card) {
                for (int w : may) {
                    if (wants.get(w).reader == r) {
                        return w;
                    }
                }
            }
        }
        int picked = may.get(0);
        for (int w : may) {
            boolean better = kind == NEXT
                ? since(begins, wants.get(w).reader) < since(begins, wants.get(picked).reader)
                : kind == DEAR ? worth(w, t) > worth(picked, t) : wants.get(w).minutes < wants.get(picked).minutes;
            picked = better ? w : picked;
        }
        return picked;
    }

    int[] run(int kind, int[] card) {
        int[] begins = nothing();
        for (int t = 0; t <= last - 1; t++) {
            for (int w = pick(begins, kind, card, t); w != NONE; w = pick(begins, kind, card, t)) {
                begins[w] = t;
            }
        }
        return begins;
    }

    /** The best card, with what is missed by it ahead. */
    int[] best() {
        int[] best = null;
        for (List<Integer> row : rowsOf(readers.size())) {
            int[] card = row.stream().mapToInt(Integer::intValue).toArray();
            int missed = missed(run(CARD, card), NONE);
            if (best == null || missed < best[0]) {
                best = new int[card.length + 1];
                best[0] = missed;
                System.arraycopy(card, 0, best, 1, card.length);
            }
        }
        return best;
    }

    private static List<List<Integer>> rowsOf(int n) {
        List<List<Integer>> rows = new ArrayList<>();
        rows.add(new ArrayList<>());
        for (int length = 0; length < n; length++) {
            List<List<Integer>> longer = new ArrayList<>();
            for (List<Integer> row : rows) {
                for (int i = 0; i < n; i++) {
                    if (!row.contains(i)) {
                        List<Integer> with = new ArrayList<>(row);
                        with.add(i);
                        longer.add(with);
                    }
                }
            }
            rows = longer;
        }
        return rows;
    }

    // ---- sequences

    /** The beginnings of a row of wants behind those that are kept, from a minute on; null, if it is no sequence. */
    private int[] place(int[] kept, List<Integer> row, int from, boolean orders) {
        int[] begins = kept.clone();
        int[][] ends = new int[parts.size()][];
        for (int p = 0; p < parts.size(); p++) {
            ends[p] = new int[parts.get(p)[0]];
        }
        List<Integer> byBeginning = new ArrayList<>();
        for (int t = 0; t < 60; t++) {
            for (int w = 0; w < kept.length; w++) {
                if (kept[w] == t) {
                    byBeginning.add(w);
                }
            }
        }
        for (int w : byBeginning) {
            takeCopy(ends, w, kept[w]);
        }
        for (int w : row) {
            int t = least(begins, ends, w, from, orders);
            if (t == NONE) {
                return null;
            }
            begins[w] = t;
            takeCopy(ends, w, t);
        }
        return begins;
    }

    private void takeCopy(int[][] ends, int w, int t) {
        int[] of = ends[wants.get(w).part];
        int c = of.length == 2 && of[1] < of[0] ? 1 : 0;
        of[c] = t + wants.get(w).minutes;
    }

    private int least(int[] begins, int[][] ends, int w, int from, boolean orders) {
        Want want = wants.get(w);
        for (int t = from; t < 60; t++) {
            if (canBegin(begins, ends, w, t, orders)) {
                return t;
            }
        }
        return NONE;
    }

    private boolean canBegin(int[] begins, int[][] ends, int w, int t, boolean orders) {
        Want want = wants.get(w);
        int[] reader = readers.get(want.reader);
        if (t < reader[0] || t < parts.get(want.part)[1] || t < Arrays.stream(ends[want.part]).min().getAsInt()) {
            return false;
        }
        if (t + want.minutes > reader[1] || t + want.minutes > last) {
            return false;
        }
        for (int m = 0; m < want.minutes; m++) {
            if (cushioned(want.part, t + m)) {
                return false;
            }
        }
        for (int x = 0; x < wants.size(); x++) {
            Want other = wants.get(x);
            if (other.reader == want.reader && begins[x] != NONE && t < begins[x] + other.minutes) {
                return false;
            }
            if (orders && reader[2] == 1 && other.reader == want.reader && x < w && begins[x] == NONE) {
                return false;
            }
            if (other.part == want.part && begins[x] != NONE) {
                if (notAfter(w, other.reader) && begins[x] < t || notAfter(x, want.reader) && begins[x] > t) {
                    return false;
                }
            }
        }
        return true;
    }

    Found first(int[] kept, List<Integer> toPlace, int from, boolean orders, Value value) {
        Found[] best = new Found[1];
        look(best, kept, toPlace, new ArrayList<>(), from, orders, value);
        return best[0];
    }

    private void look(Found[] best, int[] kept, List<Integer> toPlace, List<Integer> row, int from, boolean orders,
                      Value value) {
        int[] begins = place(kept, row, from, orders);
        if (begins == null) {
            return;
        }
        Integer is = value.of(row, begins);
        if (is != null && (best[0] == null || is < best[0].value)) {
            best[0] = new Found(is, missed(begins, NONE), begins);
        }
        for (int w : toPlace) {
            if (!row.contains(w)) {
                row.add(w);
                look(best, kept, toPlace, row, from, orders, value);
                row.remove(row.size() - 1);
            }
        }
    }

    List<Integer> all() {
        List<Integer> all = new ArrayList<>();
        for (int w = 0; w < wants.size(); w++) {
            all.add(w);
        }
        return all;
    }

    Found least() {
        return first(nothing(), all(), 0, true, (row, begins) -> missed(begins, NONE));
    }

    List<Integer> toMend(int t) {
        List<Integer> others = all();
        others.removeIf(w -> plan[w] != NONE && plan[w] < t);
        return others;
    }

    Found mend(int t) {
        int[] kept = plan.clone();
        for (int w : toMend(t)) {
            kept[w] = NONE;
        }
        return first(kept, toMend(t), t, true, (row, begins) -> missed(begins, NONE));
    }

    int soon() {
        Found found = first(nothing(), all(), 0, true, (row, begins) -> {
            if (row.size() < wants.size()) {
                return null;
            }
            int end = 0;
            for (int w : row) {
                end = Math.max(end, begins[w] + wants.get(w).minutes);
            }
            return end;
        });
        return found == null ? NONE : found.value;
    }

    Found even() {
        return first(nothing(), all(), 0, true, (row, begins) -> {
            int worst = 0;
            for (int r = 0; r < readers.size(); r++) {
                worst = Math.max(worst, missed(begins, r));
            }
            return worst;
        });
    }

    int bound() {
        int sum = 0;
        for (int p = 0; p < parts.size(); p++) {
            List<Integer> just = all();
            int part = p;
            just.removeIf(w -> wants.get(w).part != part);
            sum += first(nothing(), just, 0, false, (row, begins) -> {
                int missed = 0;
                for (int w : just) {
                    missed += wants.get(w).worth - (begins[w] == NONE ? 0 : worth(w, begins[w]));
                }
                return missed;
            }).value;
        }
        return sum;
    }

    private boolean allHaveAll(int set) {
        List<Integer> just = all();
        just.removeIf(w -> (set >> wants.get(w).reader & 1) == 0);
        return first(nothing(), just, 0, true, (row, begins) -> row.size() == just.size() ? 0 : null) != null;
    }

    int quarrel() {
        int stay = (1 << readers.size()) - 1;
        if (allHaveAll(stay)) {
            return NONE;
        }
        for (int r = 0; r < readers.size(); r++) {
            if (!allHaveAll(stay & ~(1 << r))) {
                stay &= ~(1 << r);
            }
        }
        return stay;
    }

    /** The part to be bought twice (NONE), and what is missed then. */
    int[] twice() {
        int[] best = {NONE, 0};
        for (int p = 0; p < parts.size(); p++) {
            if (parts.get(p)[0] == 1) {
                parts.get(p)[0] = 2;
                int missed = least().value;
                parts.get(p)[0] = 1;
                if (best[0] == NONE || missed < best[1]) {
                    best[0] = p;
                    best[1] = missed;
                }
            }
        }
        return best;
    }
}
