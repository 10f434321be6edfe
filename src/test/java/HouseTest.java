import java.util.regex.Matcher;
import java.util.regex.Pattern;

/** Promises 10 to 17: faults, houses, and what parts, readers and wants are. */
public final class HouseTest {
    private static final String TWO = "p1r0-9(0*1=1)r0-9(0*1=1)";
    private static final String A = "m40 p1s2 p2:5 r0-30(!0*5=6,1*10=4) r10-40(0*10=9) n1/0@0 c0@20-22";

    public static void main(String[] args) {
        texts();
        parts();
        readersAndWants();
        nots();
        cushions();
        brokenTexts();
        faultRefused();
        house();
        part();
        reader();
        want();
        changes();
        Check.end();
    }

    private static void fault(String text, int due) {
        PaperRound x = new PaperRound();
        Check.write(x, 3, text);
        long before = x.digest();
        Check.due("fault of '" + text + "'", x.fault(3), due);
        Check.due("fault of '" + text + "' changes nothing", x.digest(), before);
        int wants = x.house(3);
        Check.due("house of '" + text + "' told a fault", wants == Check.STATE ? 1 : 0, due == Check.NONE ? 0 : 1);
    }

    private static String times(String s, int n) {
        return s.repeat(n);
    }

    private static void texts() {
        fault("", Check.NONE);
        fault("   ", Check.NONE);
        fault("x", 0);
        fault("  M5", 2);
        fault("m", 1);
        fault("m0", 2);
        fault("m00", 3);
        fault("m61", 3);
        fault("m60", Check.NONE);
        fault("m7", Check.NONE);
        fault("m07", Check.NONE);
        fault("m123", 3);
        fault("m 5", 1);
        fault("m5m9 m1", Check.NONE);
        fault("m/", 1);
        fault("m:", 1);
        fault("m5" + (char) 160, 2);
    }

    private static void parts() {
        fault("p", 1);
        fault("p0", 1);
        fault("p3", 1);
        fault("p 1", 1);
        fault("p12", 2);
        fault("p2", Check.NONE);
        fault("p2:", 3);
        fault("p2:x", 3);
        fault("p2:59", Check.NONE);
        fault("p2:60", 5);
        fault("p2:6s", 5);
        fault("p2:6s9", Check.NONE);
        fault("p2s0", Check.NONE);
        fault("p1sx", 3);
        fault("p1s10", 4);
        fault("p1:5:6", 4);
        fault("p1s1:5", 4);
        fault("p1 :5", 3);
        fault(times("p1", 6), Check.NONE);
        fault(times("p1", 7), 12);
        fault(times("p1 ", 6) + "px", 18);
    }

    private static void readersAndWants() {
        fault("r", 1);
        fault("r-", 1);
        fault("r5", 2);
        fault("r5x", 2);
        fault("r61-", 3);
        fault("r60-60(", 6);
        fault("r5-", 3);
        fault("r5-5(", 4);
        fault("r5-04(", 5);
        fault("r05-61(", 6);
        fault("r5-6", 4);
        fault("r5-6x", 4);
        fault("r5-6(0", 5);
        fault("p1r5-6(", 7);
        fault("p1r5-6(!", 8);
        fault("p1r5-6(!)", 8);
        fault("p1r5-6(!!", 8);
        fault("p1r5-6()", 7);
        fault("p1r5-6(1", 7);
        fault("p1r5-6(0", 8);
        fault("p1r5-6(0*", 9);
        fault("p1r5-6(0*0=1)", 10);
        fault("p1r5-6(0*21=1)", 11);
        fault("p1r5-6(0*20", 11);
        fault("p1r5-6(0*20=", 12);
        fault("p1r5-6(0*20=0)", 12);
        fault("p1r5-6(0*2=9", 12);
        fault("p1r5-6(0*2=9,)", 13);
        fault("p1r5-6(0*2=9,0*2=9)", 13);
        fault("p1r5-6(0*2=91", 12);
        fault("p1r5-6(0*2=9 )", 12);
        fault("p1r5-6(0)", 8);
        fault("p1r5-6(0,0*2=9)", 8);
        fault("p1r5-6(0*)", 9);
        fault("p1r5-6(0*2)", 10);
        fault("p1r5-6(0*21)", 11);
        fault("p1r5-6(0*2=)", 11);
        fault("p1r5-6(0*02=9)", Check.NONE);
        fault("p1r5-6(0*002=9)", 11);
        fault(times("p1", 6) + "r0-9(0*1=1,1*1=1,2*1=1,3*1=1,4*1=1,5*1=1)", Check.NONE);
        fault(times("p1", 6) + "r0-9(0*1=1,1*1=1,2*1=1,3*1=1,4*1=1,5*1=1,)", 53);
        fault("p1r5-6(0*2=9)p1", Check.NONE);
        fault("p1p1r5-6(0*2=9,1*3=1)", Check.NONE);
        fault("r5-6(0*2=9)p1", 5);
        fault("p1" + times("r0-1(0*1=1)", 8), Check.NONE);
        fault("p1" + times("r0-1(0*1=1)", 8) + "r", 90);
    }

    private static void nots() {
        fault("n", 1);
        fault(TWO + "n", 25);
        fault(TWO + "n2", 25);
        fault(TWO + "n0", 26);
        fault(TWO + "n0-", 26);
        fault(TWO + "n0/", 27);
        fault(TWO + "n0/0", 27);
        fault(TWO + "n0/2", 27);
        fault(TWO + "n1/1@0", 27);
        fault(TWO + "n0/1", 28);
        fault(TWO + "n0/1@", 29);
        fault(TWO + "n0/1@1", 29);
        fault(TWO + "n0/1@0", Check.NONE);
        fault(TWO + "n1/0@0 ", Check.NONE);
        fault(TWO + times("n0/1@0", 8), Check.NONE);
        fault(TWO + times("n0/1@0", 8) + "n", 72);
    }

    private static void cushions() {
        fault("c0", 1);
        fault("p1c", 3);
        fault("p1c1", 3);
        fault("p1c0", 4);
        fault("p1c0@", 5);
        fault("p1c0@61-", 7);
        fault("p1c0@5", 6);
        fault("p1c0@5-", 7);
        fault("p1c0@5-4", 8);
        fault("p1c0@5-5", Check.NONE);
        fault("p1c0@60-60", Check.NONE);
        fault("p1c0@5-61", 9);
        fault("p1" + times("c0@5-5", 8), Check.NONE);
        fault("p1" + times("c0@5-5", 9), 50);
    }

    /** A text that ends too early, or with a sign in it that no item has. */
    private static void brokenTexts() {
        String minute = "\\d\\d?";
        String want = "\\d\\*" + minute + "=\\d";
        Pattern whole = Pattern.compile("( |m" + minute + "|p\\d(:" + minute + ")?(s\\d)?|r" + minute + "-" + minute
            + "\\(!?" + want + "(," + want + ")*\\)|n\\d/\\d@\\d|c\\d@(" + minute + ")-(" + minute + "))*");
        for (int n = 0; n < 60; n++) {
            Maker maker = new Maker(n);
            maker.make(24);
            for (int i = 0; i < maker.text.length(); i++) {
                String early = maker.text.substring(0, i);
                Matcher m = whole.matcher(early);
                boolean isWhole = m.matches();
                int c = early.lastIndexOf('c');
                if (isWhole && c >= 0 && early.matches(".*c[^ ]*")) {
                    String[] ab = early.substring(early.indexOf('@', c) + 1).split("-");
                    isWhole = Integer.parseInt(ab[0]) <= Integer.parseInt(ab[1]);
                }
                fault(early, isWhole ? Check.NONE : i);
                fault(early + "~" + maker.text.substring(i + 1), i);
            }
        }
    }

    private static void faultRefused() {
        PaperRound x = new PaperRound();
        Check.refused(x, Check.BAD, "fault(4)", () -> x.fault(4));
        Check.refused(x, Check.BAD, "fault(-1)", () -> x.fault(-1));
        Check.finds(x, Check.NOTHING, "fault(0)", () -> x.fault(0));
    }

    private static void house() {
        PaperRound x = Check.house(A);
        Check.due("count(0)", x.count(0), 2);
        Check.due("count(1)", x.count(1), 2);
        Check.due("count(2)", x.count(2), 3);
        Check.due("count(3)", x.count(3), 40);
        x.read(0, 3);
        x.rule(0, 3, 0);
        x.copies(0, 2);
        Check.write(x, 1, "p1 m0");
        Check.refused(x, Check.BAD, "house(4)", () -> x.house(4));
        Check.refused(x, Check.BAD, "house(-1)", () -> x.house(-1));
        Check.refused(x, Check.FINDING, "house(2)", () -> x.house(2));
        Check.finds(x, Check.NOTHING, "house(2)", () -> x.house(2));
        Check.refused(x, Check.STATE, "house of a fault", () -> x.house(1));
        x.fault(1);
        Check.told(x, "behind a fault, want(0, 4)", x.want(0, 4), 3);
        Check.due("house anew", x.house(0), 3);
        Check.begins(x, "house anew", Check.NONE, Check.NONE, Check.NONE);
        Check.told(x, "house anew, part(0, 0)", x.part(0, 0), 1);
        Check.finds(x, Check.NOTHING, "house anew, run(0)", () -> x.run(0));
        Check.write(x, 0, "m5m9");
        Check.due("the text changed, count(3)", x.count(3), 40);
        Check.due("house without wants", x.house(0), 0);
        Check.due("the last told LAST", x.count(3), 9);
        x.text(0, 1);
        x.house(0);
        Check.due("LAST not told", x.count(3), 60);
    }

    private static void part() {
        PaperRound x = Check.house(A);
        int[][] due = {{1, 0, 2}, {2, 5, 0}};
        for (int p = 0; p < 2; p++) {
            for (int what = 0; what < 3; what++) {
                Check.told(x, "part(" + p + ", " + what + ")", x.part(p, what), due[p][what]);
            }
        }
        Check.refused(x, Check.BAD, "part(2, 0)", () -> x.part(2, 0));
        Check.refused(x, Check.BAD, "part(-1, 0)", () -> x.part(-1, 0));
        Check.refused(x, Check.BAD, "part(0, 3)", () -> x.part(0, 3));
        Check.refused(x, Check.BAD, "part(0, -1)", () -> x.part(0, -1));
    }

    private static void reader() {
        PaperRound x = Check.house(A);
        int[][] due = {{0, 30, 3, 1}, {10, 40, 4, 0}};
        for (int r = 0; r < 2; r++) {
            for (int what = 0; what < 4; what++) {
                Check.told(x, "reader(" + r + ", " + what + ")", x.reader(r, what), due[r][what]);
            }
        }
        Check.refused(x, Check.BAD, "reader(2, 0)", () -> x.reader(2, 0));
        Check.refused(x, Check.BAD, "reader(-1, 0)", () -> x.reader(-1, 0));
        Check.refused(x, Check.BAD, "reader(0, 4)", () -> x.reader(0, 4));
        Check.refused(x, Check.BAD, "reader(0, -1)", () -> x.reader(0, -1));
    }

    private static void want() {
        PaperRound x = Check.house(A);
        x.read(1, 8);
        int[][] due = {{0, 0, 5, 6, Check.NONE, 0}, {0, 1, 10, 4, 8, 0}, {1, 0, 10, 9, Check.NONE, 1}};
        for (int w = 0; w < 3; w++) {
            for (int what = 0; what < 6; what++) {
                Check.told(x, "want(" + w + ", " + what + ")", x.want(w, what), due[w][what]);
            }
        }
        Check.refused(x, Check.BAD, "want(3, 0)", () -> x.want(3, 0));
        Check.refused(x, Check.BAD, "want(-1, 0)", () -> x.want(-1, 0));
        Check.refused(x, Check.BAD, "want(0, 6)", () -> x.want(0, 6));
        Check.refused(x, Check.BAD, "want(0, -1)", () -> x.want(0, -1));
        PaperRound y = Check.house("p1p1" + times("r0-9(1*1=1)", 4) + "n3/1@1 n3/0@1 n3/1@1 n3/2@0 n0/3@1");
        Check.told(y, "AFTER two readers", y.want(3, 5), 3);
        Check.told(y, "AFTER one reader", y.want(0, 5), 8);
        Check.told(y, "AFTER none", y.want(1, 5), 0);
        PaperRound z = Check.house("p1p1 r0-9(0*1=1) r0-9(1*1=1) n0/1@0");
        Check.told(z, "AFTER one who does not want it", z.want(0, 5), 2);
    }

    private static void changes() {
        PaperRound x = Check.house(A);
        Check.due("copies(0, 2)", x.copies(0, 2), 1);
        Check.due("copies(0, 1)", x.copies(0, 1), 2);
        Check.due("copies(1, 2)", x.copies(1, 2), 2);
        Check.told(x, "part(1, 0)", x.part(1, 0), 2);
        for (int n : new int[] {0, 3, -1}) {
            Check.refused(x, Check.BAD, "copies(0, " + n + ")", () -> x.copies(0, n));
        }
        Check.refused(x, Check.BAD, "copies(2, 1)", () -> x.copies(2, 1));
        Check.refused(x, Check.BAD, "copies(-1, 1)", () -> x.copies(-1, 1));
        Check.due("post(1, 59, 9)", x.post(1, 59, 9), 1);
        Check.told(x, "part(1, 1)", x.part(1, 1), 59);
        Check.told(x, "part(1, 2)", x.part(1, 2), 9);
        Check.due("post(1, 0, 0)", x.post(1, 0, 0), 1);
        int[][] posts = {{-1, 0, 0}, {2, 0, 0}, {0, -1, 0}, {0, 60, 0}, {0, 0, -1}, {0, 0, 10}};
        for (int[] b : posts) {
            Check.refused(x, Check.BAD, "a bad post", () -> x.post(b[0], b[1], b[2]));
        }
        Check.due("late(1, 0, 60)", x.late(1, 0, 60), 1);
        Check.told(x, "reader(1, 0)", x.reader(1, 0), 0);
        Check.told(x, "reader(1, 1)", x.reader(1, 1), 60);
        Check.due("late(1, 59, 60)", x.late(1, 59, 60), 1);
        int[][] lates = {{-1, 0, 9}, {2, 0, 9}, {0, -1, 9}, {0, 9, 9}, {0, 9, 8}, {0, 0, 61}, {0, 60, 60}};
        for (int[] b : lates) {
            Check.refused(x, Check.BAD, "a bad late", () -> x.late(b[0], b[1], b[2]));
        }
    }
}
