import java.lang.management.ManagementFactory;

/** No call throws, whatever it is given; what is refused changes nothing; what a run makes fits the room. */
public final class SafetyTest {
    private static final int[] EDGES = {Integer.MIN_VALUE, Integer.MIN_VALUE + 1, -1000, -129, -128, -10, -9, -8, -2, -1,
        0, 1, 2, 3, 4, 5, 6, 7, 8, 9, 23, 24, 25, 31, 32, 33, 47, 48, 49, 59, 60, 61, 63, 64, 119, 120, 121, 127, 128,
        1000, Integer.MAX_VALUE - 1, Integer.MAX_VALUE};
    private static final String HARD = "p1:10s1p2s9p1r0-59(!0*9=5,1*3=2)r3-60(1*20=9,2*1=1)r0-30(2*9=3,0*6=6)r9-40(0*7=8,1*8=4)";

    private static Maker maker;

    public static void main(String[] args) {
        for (int n = 0; n < 1200; n++) {
            maker = new Maker(n);
            oneObject(n);
        }
        staysInTheRoom();
        Check.end();
    }

    private static int any() {
        return maker.oneIn(3) ? EDGES[maker.upTo(EDGES.length - 1)] : maker.upTo(7);
    }

    private static void oneObject(int n) {
        PaperRound x = new PaperRound();
        int calls = 0;
        if (n % 3 != 0) {
            maker.make(n % 2 == 0 ? 8 : 24);
            Check.write(x, 0, maker.text);
            x.house(0);
            calls = maker.text.length() + 2;
        }
        long before = x.digest();
        int asked = x.asked();
        for (int i = calls + 2; i + 3 <= 512; i += 3) {
            int which = maker.upTo(38);
            long answer;
            try {
                answer = call(x, which);
            } catch (RuntimeException e) {
                Check.due("object " + n + ", call " + which + " threw " + e, 1, 0);
                return;
            }
            long behind = x.digest();
            int askedBehind = x.asked();
            boolean refused = which < 36 && answer < 0 && answer != Check.NONE;
            if (refused && (behind != before || askedBehind != asked)) {
                Check.due("object " + n + ", refused call " + which + " changed something", answer, 0);
            }
            before = behind;
            asked = askedBehind;
        }
        Check.due("object " + n + " went through", 0, 0);
    }

    private static long call(PaperRound x, int which) {
        int a = any();
        int b = any();
        int c = any();
        switch (which) {
            case 0: return x.row(a, b);
            case 1: return x.lay(a, b, c);
            case 2: return x.at(a, b);
            case 3: return x.tear(a);
            case 4: return x.copy(a, b, c, any(), any());
            case 5: return x.mean(a);
            case 6: return x.text(a, b);
            case 7: return x.put(a, b, maker.oneIn(2) ? "mprnc :s-(!,*=)/@0123456789".charAt(maker.upTo(26)) : c);
            case 8: return x.fault(a);
            case 9: return x.house(maker.oneIn(3) ? a : 0);
            case 10: return x.part(a, b);
            case 11: return x.reader(a, b);
            case 12: return x.want(a, b);
            case 13: return x.copies(a, b);
            case 14: return x.post(a, b, c);
            case 15: return x.late(a, b, c);
            case 16: return x.read(a, b);
            case 17: return x.judge();
            case 18: return x.missed(a);
            case 19: return x.who(a, b);
            case 20: return x.can(a, b);
            case 21: return x.image(a);
            case 22: return x.on(a);
            case 23: return x.rule(a, b, c);
            case 24: return x.mark(a, b);
            case 25: return x.run(a);
            case 26: return x.best(a);
            case 27: return x.least();
            case 28: return x.mend(a);
            case 29: return x.soon();
            case 30: return x.even();
            case 31: return x.bound();
            case 32: return x.quarrel();
            case 33: return x.twice();
            case 34: return x.count(a);
            case 35: return x.findings(a);
            case 36: return x.asked();
            case 37: return x.finding();
            default: return x.digest();
        }
    }

    /** How many calls these were. */
    private static int dearCalls(PaperRound x) {
        x.house(0);
        x.row(0, 4);
        x.image(1);
        for (int i = 0; i < 4; i++) {
            x.lay(0, i, 3 - i);
        }
        for (int k = 1; k <= 5; k++) {
            x.rule(k, k, 0);
            x.run(k);
        }
        x.on(1);
        x.best(2);
        x.least();
        x.mend(5);
        x.soon();
        x.even();
        x.bound();
        x.quarrel();
        x.twice();
        x.can(0, 5);
        x.digest();
        x.fault(0);
        return 3 + 4 + 10 + 12;
    }

    /** What a run makes fits the room of some 7.3 million fields and elements, however dear its calls are. */
    private static void staysInTheRoom() {
        for (int n = 0; n < 30; n++) {
            dearCalls(Check.house(HARD));
        }
        if (!(ManagementFactory.getThreadMXBean() instanceof com.sun.management.ThreadMXBean bean)) {
            return;
        }
        PaperRound x = Check.house(HARD);
        bean.getCurrentThreadAllocatedBytes();
        long before = bean.getCurrentThreadAllocatedBytes();
        int calls = dearCalls(x);
        long made = bean.getCurrentThreadAllocatedBytes() - before;
        Check.isTrue("512 calls as dear as these " + calls + ", which made " + made + " bytes, fit", made * 512 / calls < 4 * 7_300_000L);
    }
}
