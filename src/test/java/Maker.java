import java.util.Random;

/** Makes houses by a fixed seed: as an oracle, and as the text that tells the same. */
final class Maker {
    private final Random random;
    Oracle oracle;
    String text;

    Maker(long seed) {
        random = new Random(seed);
    }

    int upTo(int n) {
        return random.nextInt(n + 1);
    }

    int among(int low, int high) {
        return low + random.nextInt(high - low + 1);
    }

    boolean oneIn(int n) {
        return random.nextInt(n) == 0;
    }

    /** A house with at most so many wants; its text is at most 120 long, or it is made again. */
    void make(int mostWants) {
        do {
            oracle = new Oracle();
            StringBuilder s = new StringBuilder();
            if (oneIn(2)) {
                oracle.last = oneIn(4) ? among(1, 60) : among(15, 60);
                s.append('m').append(oracle.last);
            }
            parts(s);
            readers(s, mostWants);
            extras(s);
            text = s.toString();
            oracle.plan = oracle.nothing();
        } while (text.length() > 120);
    }

    private void blank(StringBuilder s) {
        if (oneIn(8)) {
            s.append(' ');
        }
    }

    private void parts(StringBuilder s) {
        int parts = oneIn(12) ? 0 : among(1, oneIn(3) ? 6 : 3);
        for (int p = 0; p < parts; p++) {
            int[] part = {oneIn(3) ? 2 : 1, oneIn(3) ? upTo(25) : 0, oneIn(3) ? upTo(oneIn(2) ? 9 : 3) : 0};
            oracle.parts.add(part);
            blank(s);
            s.append('p').append(part[0]);
            if (part[1] > 0 || oneIn(9)) {
                s.append(':').append(part[1]);
            }
            if (part[2] > 0 || oneIn(9)) {
                s.append('s').append(part[2]);
            }
        }
    }

    private void readers(StringBuilder s, int mostWants) {
        int parts = oracle.parts.size();
        int readers = parts == 0 || oneIn(15) ? 0 : among(1, oneIn(3) ? 8 : 4);
        for (int r = 0; r < readers && oracle.wants.size() < mostWants; r++) {
            int a = oneIn(2) ? 0 : upTo(oneIn(9) ? 59 : 20);
            int b = Math.min(60, a + among(1, oneIn(2) ? 60 : 25));
            boolean ordered = oneIn(3);
            oracle.readers.add(new int[] {a, b, ordered ? 1 : 0});
            blank(s);
            s.append('r').append(a).append('-').append(b).append('(').append(ordered ? "!" : "");
            wants(s, r, mostWants);
            s.append(')');
        }
    }

    private void wants(StringBuilder s, int r, int mostWants) {
        int many = among(1, Math.min(oracle.parts.size(), Math.min(3, mostWants - oracle.wants.size())));
        int told = 0;
        for (int n = 0; n < many; n++) {
            int p = upTo(oracle.parts.size() - 1);
            while ((told >> p & 1) != 0) {
                p = (p + 1) % oracle.parts.size();
            }
            told |= 1 << p;
            int minutes = among(1, oneIn(2) ? 20 : 9);
            int worth = among(1, 9);
            oracle.wants.add(new Oracle.Want(r, p, minutes, worth));
            s.append(n == 0 ? "" : ",").append(p).append('*').append(minutes).append('=').append(worth);
        }
    }

    private void extras(StringBuilder s) {
        int readers = oracle.readers.size();
        int parts = oracle.parts.size();
        for (int n = oneIn(2) ? upTo(4) : 0; n > 0 && readers > 1; n--) {
            int r = upTo(readers - 1);
            int q = (r + among(1, readers - 1)) % readers;
            int p = upTo(parts - 1);
            oracle.nots.add(new Oracle.Not(r, q, p));
            blank(s);
            s.append('n').append(r).append('/').append(q).append('@').append(p);
        }
        for (int n = oneIn(2) ? upTo(3) : 0; n > 0 && parts > 0; n--) {
            int p = upTo(parts - 1);
            int a = upTo(oneIn(9) ? 60 : 25);
            int b = Math.min(60, a + upTo(oneIn(9) ? 40 : 8));
            oracle.cushions.add(new Oracle.Cushion(p, a, b));
            blank(s);
            s.append('c').append(p).append('@').append(a).append('-').append(b);
        }
    }
}
