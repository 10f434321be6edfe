import java.util.ArrayList;
import java.util.List;

/** All that some hundred calls can see of an object, so that two objects can be held against each other. */
final class Look {
    /** The place of finding(), with findings(1) to findings(5) behind it. */
    static final int LATEST = 0;

    private static final List<String> NAMES = new ArrayList<>();

    private final PaperRound x;
    private final List<Long> seen = new ArrayList<>();

    private Look(PaperRound x) {
        this.x = x;
    }

    /** Ends the use of the object, since some of the calls change it. */
    static long[] at(PaperRound x) {
        Look look = new Look(x);
        look.told();
        look.plan();
        look.sequences();
        look.rules();
        return look.seen.stream().mapToLong(Long::longValue).toArray();
    }

    static String nameOf(int i) {
        return NAMES.get(i);
    }

    private void see(String name, long answer) {
        if (NAMES.size() == seen.size()) {
            NAMES.add(name);
        }
        seen.add(answer);
    }

    private void told() {
        see("finding()", x.finding());
        for (int f = 1; f <= 5; f++) {
            see("findings(" + f + ")", x.findings(f));
        }
        see("asked()", x.asked());
        see("digest()", x.digest());
        for (int t = 0; t < 4; t++) {
            see("fault(" + t + ")", x.fault(t));
        }
    }

    private void plan() {
        see("judge()", x.judge());
        see("missed(NONE)", x.missed(Check.NONE));
        for (int r = 0; r < 8; r++) {
            for (int t = 0; t < 60; t += 17) {
                see("can(" + r + ", " + t + ")", x.can(r, t));
            }
        }
        see("mend(3)", x.mend(3));
        see("digest() behind mend(3)", x.digest());
    }

    private void sequences() {
        see("soon()", x.soon());
        see("even()", x.even());
        see("even(), asked()", x.asked());
        see("bound()", x.bound());
        see("quarrel()", x.quarrel());
        see("twice()", x.twice());
        see("twice(), asked()", x.asked());
        see("least()", x.least());
        see("digest() behind least()", x.digest());
    }

    private void rules() {
        for (int k = 0; k < 6; k++) {
            see("run(" + k + ")", x.run(k));
            see("digest() behind run(" + k + ")", x.digest());
        }
        see("best(5)", x.best(5));
        see("digest() behind best(5)", x.digest());
    }
}
