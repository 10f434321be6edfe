/** Promises 10 to 17 and what a HOUSE is, sentence by sentence. */
public final class EdgeHouseTest {
    private static final int NONE = Check.NONE;
    private static final String TWO = "p1p1r0-9(0*1=1)r0-9(0*1=1)";
    private static final String SIX = "p1p1p1p1p1p1";
    private static final String EIGHT = "p1" + "r0-1(0*1=1)".repeat(8);

    public static void main(String[] args) {
        sizes();
        blanks();
        noBlanksWithin();
        items();
        last();
        parts();
        partMinutes();
        stale();
        readersMinutes();
        readers();
        wants();
        wantNumbers();
        mostWants();
        nots();
        cushions();
        cushionMinutes();
        figures();
        firstFault();
        endsTooEarly();
        numbers();
        fault();
        house();
        houseChanges();
        housesInTurn();
        houseRefused();
        part();
        reader();
        want();
        copies();
        post();
        late();
        Check.end();
    }

    /** A text's fault; house() is refused with STATE behind one, and else taken. */
    private static void fault(String text, int due) {
        PaperRound x = new PaperRound();
        Check.write(x, 2, text);
        Check.due("fault of '" + text + "'", x.fault(2), due);
        long before = x.digest();
        int wants = x.house(2);
        if (due == NONE) {
            Check.isTrue("house of '" + text + "' is taken", wants >= 0 && wants == x.count(2));
        } else {
            Check.due("house of '" + text + "'", wants, Check.STATE);
            Check.due("house of '" + text + "' changes nothing", x.digest(), before);
        }
    }

    private static void goesOn(String... texts) {
        for (String text : texts) {
            fault(text, NONE);
        }
    }

    private static PaperRound of(String text) {
        return Check.house(text);
    }

    // ---- terms 1

    private static void sizes() {
        Check.terms(1, "ROWS 0 .. 5 are rows of 0 to 48 ints, TEXTS 0 .. 3 rows of 0 to 120 bytes, or missing (at first).");
        PaperRound x = new PaperRound();
        for (int r = 0; r < 6; r++) {
            int n = r;
            Check.finds(x, Check.NOTHING, "tear(" + r + ") at first", () -> x.tear(n));
            Check.due("row(" + r + ", 48)", x.row(r, 48), 48);
            Check.due("row(" + r + ", 0)", x.row(r, 0), 0);
        }
        for (int t = 0; t < 4; t++) {
            int n = t;
            Check.finds(x, Check.NOTHING, "fault(" + t + ") at first", () -> x.fault(n));
            Check.due("text(" + t + ", 120)", x.text(t, 120), 120);
            Check.due("text(" + t + ", 0)", x.text(t, 0), 0);
        }
        Check.due("count(7)", x.count(7), 6);
        Check.due("count(8)", x.count(8), 4);
        Check.refused(x, Check.BAD, "row(6, 0)", () -> x.row(6, 0));
        Check.refused(x, Check.BAD, "text(4, 0)", () -> x.text(4, 0));
        Check.refused(x, Check.BAD, "row(0, 49)", () -> x.row(0, 49));
        Check.refused(x, Check.BAD, "text(0, 121)", () -> x.text(0, 121));
    }

    private static void blanks() {
        Check.terms(1, "A HOUSE is a TEXT: blanks (32) ahead, between, behind as many as wanted");
        String many = " ".repeat(30);
        goesOn("", " ", many, " ".repeat(120), many + "p1", "p1" + many, many + "p1" + many + "p2" + many, "m9 p1:5s3  p2");
        goesOn("m9p1:5s3p2r0-9(0*1=1)r0-9(1*1=1)n0/1@0c0@1-2m8p1c1@0-0");
        goesOn(" m9 p1:5s3 p2 r0-9(0*1=1) r0-9(1*1=1) n0/1@0 c0@1-2 m8 p1 c1@0-0 ");
        goesOn(" ".repeat(118) + "p1", "p1" + " ".repeat(118));
        fault(" ".repeat(119) + "p", 120);
        fault(" ".repeat(119) + "x", 119);
        fault("x" + " ".repeat(119), 0);
        fault("p1" + many + "x", 32);
        PaperRound x = of(many + "m9" + many + "p1r0-9(0*1=1)" + many);
        Check.due("count(2) among blanks", x.count(2), 1);
        Check.due("count(3) among blanks", x.count(3), 9);
    }

    private static void noBlanksWithin() {
        Check.terms(1, "none within items.");
        for (String item : new String[] {"m 40", "p 1", "p1: 59", "p1s 9", "p1:5s 3", "r 0-9(0*1=1)", "r0 -9(0*1=1)",
                "r0- 9(0*1=1)", "r0-9 (0*1=1)", "r0-9( 0*1=1)", "r0-9( !0*1=1)", "r0-9(! 0*1=1)", "r0-9(0 *1=1)",
                "r0-9(0* 1=1)", "r0-9(0*1 =1)", "r0-9(0*1= 1)", "r0-9(0*1=1 )", "r0-9(0*1=1 ,1*1=1)", "r0-9(0*1=1, 1*1=1)",
                "n 0/1@0", "n0 /1@0", "n0/ 1@0", "n0/1 @0", "n0/1@ 0", "c 0@1-2", "c0 @1-2", "c0@ 1-2", "c0@1 -2", "c0@1- 2"}) {
            fault(TWO + item, TWO.length() + item.indexOf(' '));
            fault(TWO + item.replace("  ", " "), TWO.length() + item.indexOf(' '));
        }
        // These items are whole ahead of the blank; what is behind it begins none.
        fault("m4 0", 3);
        fault("p1 :5", 3);
        fault("p1:5 s3", 5);
        fault("p1:5 9", 5);
        fault("p1 s3", 3);
        fault(TWO + "c0@1-1 2", TWO.length() + 7);
        for (char sign : new char[] {0, 1, 9, 10, 13, 31, 33, 127, 128, 160, 255}) {
            fault("p1" + sign, 2);
            fault(" " + sign + "p1", 1);
        }
    }

    private static void items() {
        Check.terms(1, "Items (perhaps none):");
        Check.due("house of no bytes", of("").count(2), 0);
        Check.due("house of no bytes, PARTS", of("").count(0), 0);
        Check.due("house of blanks, READERS", of("    ").count(1), 0);
        for (int sign = 0; sign < 256; sign++) {
            boolean begins = sign == 'm' || sign == 'p' || sign == 'r' || sign == 'n' || sign == 'c';
            fault("" + (char) sign, sign == ' ' ? NONE : begins ? 1 : 0);
            fault(TWO + (char) sign, sign == ' ' ? NONE : TWO.length() + (begins ? 1 : 0));
        }
        fault("M9", 0);
        fault("P1", 0);
        goesOn("m9m9m9", "p1c0@0-0p1c1@0-0r0-1(0*1=1)p1r0-1(2*1=1)n0/1@2m5");
    }

    private static void last() {
        Check.terms(1, "m (109) and LAST (1 .. 60; the last told counts; 60, if not told).");
        for (int minute = 1; minute <= 60; minute++) {
            fault("m" + minute, NONE);
            Check.due("LAST of m" + minute, of("m" + minute).count(3), minute);
        }
        fault("m0", 2);
        fault("m00", 3);
        fault("m61", 3);
        fault("m70", 3);
        fault("m99", 3);
        fault("m610", 3);
        fault("m600", 3);
        fault("m010", 3);
        fault("m", 1);
        fault("m-1", 1);
        Check.due("LAST of m01", of("m01").count(3), 1);
        Check.due("LAST of m09", of("m09").count(3), 9);
        Check.due("LAST told twice", of("m5m40").count(3), 40);
        Check.due("LAST told twice, less", of("m40 m5").count(3), 5);
        Check.due("LAST told thrice, behind all", of("m5 p1 m9 r0-9(0*1=1) m7").count(3), 7);
        Check.due("LAST not told", of("p1r0-9(0*1=1)").count(3), 60);
        PaperRound x = of("m5");
        Check.write(x, 1, "p1");
        x.house(1);
        Check.due("LAST not told by a house anew", x.count(3), 60);
        goesOn("m1p1:59r59-60(0*20=1)c0@60-60");
    }

    private static void parts() {
        Check.terms(1, "p (112) n a PART (6 at most) of n COPIES (1, 2)");
        goesOn("p1", "p2", SIX, "p2p2p2p2p2p2");
        fault("p0", 1);
        for (int n = 3; n <= 9; n++) {
            fault("p" + n, 1);
        }
        fault("p", 1);
        fault("pp", 1);
        fault("p11", 2);
        fault("p21", 2);
        for (int n = 0; n <= 6; n++) {
            Check.due("PARTS of " + n, of(SIX.substring(0, 2 * n)).count(0), n);
        }
        Check.told(of("p2p1p2"), "COPIES of PART 0", 1, 0);
        PaperRound x = of("p2p1p2p1p1p2");
        int[] copies = {2, 1, 2, 1, 1, 2};
        for (int p = 0; p < 6; p++) {
            Check.told(x, "COPIES of PART " + p, x.part(p, 0), copies[p]);
        }
        Check.terms(1, "a seventh PART, a ninth READER, a ninth n, c: its letter;");
        fault(SIX + "p1", 12);
        fault(SIX + "p", 12);
        fault(SIX + "p9", 12);
        fault(SIX + " px", 13);
        fault(SIX + "p1p1", 12);
        fault(EIGHT + "r0-1(0*1=1)", EIGHT.length());
        fault(EIGHT + "r", EIGHT.length());
        fault(EIGHT + " r9", EIGHT.length() + 1);
        fault(TWO + "n0/1@0".repeat(9), TWO.length() + 48);
        fault(TWO + "n0/1@0".repeat(8) + "n", TWO.length() + 48);
        fault(TWO + "n1/0@0".repeat(4) + "n0/1@1".repeat(4) + " n9", TWO.length() + 49);
        fault("p1" + "c0@0-0".repeat(9), 50);
        fault("p1" + "c0@0-0".repeat(8) + "c", 50);
        fault("p1" + "c0@0-0".repeat(8) + " c9", 51);
    }

    private static void partMinutes() {
        Check.terms(1, "perhaps : (58) a, the minute in which it comes (0 .. 59; 0, if not told)");
        for (int a = 0; a < 60; a++) {
            PaperRound x = of("p1:" + a);
            Check.told(x, "comes, p1:" + a, x.part(0, 1), a);
        }
        fault("p1:60", 5);
        fault("p1:61", 5);
        fault("p1:99", 5);
        fault("p1:590", 5);
        fault("p1:", 3);
        fault("p1:s3", 3);
        fault("p1::5", 3);
        fault("p1:5:6", 4);
        fault("p1:60s3", 5);
        goesOn("p1:00", "p1:05", "p1:0", "p2:59s0");
        PaperRound x = of("p1:7p1p1s4");
        Check.told(x, "comes, told", x.part(0, 1), 7);
        Check.told(x, "comes, not told", x.part(1, 1), 0);
        Check.told(x, "comes, not told, but stale", x.part(2, 1), 0);
    }

    private static void stale() {
        Check.terms(1, "then perhaps s (115) f, STALE by f (0 .. 9; 0).");
        for (int f = 0; f <= 9; f++) {
            PaperRound x = of("p1s" + f + "p2:5s" + f);
            Check.told(x, "stale, s" + f, x.part(0, 2), f);
            Check.told(x, "stale, :5s" + f, x.part(1, 2), f);
        }
        fault("p1s", 3);
        fault("p1sx", 3);
        fault("p1s10", 4);
        fault("p1s1s1", 4);
        fault("p1s1:5", 4);
        fault("p1:5s", 5);
        PaperRound x = of("p1s7p1p1:5");
        Check.told(x, "stale, not told", x.part(1, 2), 0);
        Check.told(x, "stale, not told, but it comes", x.part(2, 2), 0);
    }

    private static void readersMinutes() {
        Check.terms(1, "in from minute a on, till b (0 .. 60, a below b)");
        for (int a = 0; a <= 60; a++) {
            for (int b : new int[] {0, 1, a - 1, a, a + 1, 59, 60, 61}) {
                String text = "p1r" + a + "-" + b + "(0*1=1)";
                int behindB = ("p1r" + a + "-" + b).length();
                if (b >= 0) {
                    fault(text, a < b && b <= 60 ? NONE : behindB);
                }
            }
        }
        fault("p1r61-62(0*1=1)", 5);
        fault("p1r99-60(0*1=1)", 5);
        fault("p1r0-99(0*1=1)", 7);
        fault("p1r0-600(0*1=1)", 7);
        fault("p1r000-9(0*1=1)", 5);
        fault("p1r-9(0*1=1)", 3);
        fault("p1r0-(0*1=1)", 5);
        fault("p1r0(0*1=1)", 4);
        fault("p1r0--9(0*1=1)", 5);
        PaperRound x = of("p1r0-60(0*1=1)r59-60(0*1=1)r00-01(0*1=1)r09-10(0*1=1)");
        int[][] due = {{0, 60}, {59, 60}, {0, 1}, {9, 10}};
        for (int r = 0; r < 4; r++) {
            Check.told(x, "a of READER " + r, x.reader(r, 0), due[r][0]);
            Check.told(x, "b of READER " + r, x.reader(r, 1), due[r][1]);
        }
    }

    private static void readers() {
        Check.terms(1, "r (114) a - (45) b a READER (8 at most)");
        for (int n = 0; n <= 8; n++) {
            String text = "p1" + "r0-1(0*1=1)".repeat(n);
            goesOn(text);
            Check.due("READERS of " + n, of(text).count(1), n);
        }
        fault(EIGHT + "r0-1(0*1=1)", EIGHT.length());
        Check.terms(1, "then ( (40), perhaps ! (33: in told order), WANTS with , (44) between, one at least, ) (41);");
        fault("p1r0-9", 6);
        fault("p1r0-9[0*1=1)", 6);
        fault("p1r0-9!(0*1=1)", 6);
        fault("p1r0-9()", 7);
        fault("p1r0-9(!)", 8);
        fault("p1r0-9(!!0*1=1)", 8);
        fault("p1r0-9(,0*1=1)", 7);
        fault("p1p1r0-9(0*1=1!,1*1=1)", 14);
        fault("p1p1r0-9(0*1=1,!1*1=1)", 15);
        fault("p1p1r0-9(0*1=1,,1*1=1)", 15);
        fault("p1p1r0-9(0*1=1;1*1=1)", 14);
        fault("p1p1r0-9(0*1=11*1=1)", 14);
        fault("p1p1r0-9(0*1=1,)", 15);
        fault("p1r0-9(0*1=1]", 12);
        fault("p1r0-9(0*1=1))", 13);
        goesOn("p1r0-9(!0*1=1)", "p1p1r0-9(!1*1=1,0*1=1)", SIX + "r0-9(5*1=1,4*1=1,3*1=1,2*1=1,1*1=1,0*1=1)");
        PaperRound x = of("p1p1r0-9(0*1=1)r0-9(!0*1=1,1*1=1)r0-9(1*1=1)");
        int[] ordered = {0, 1, 0};
        for (int r = 0; r < 3; r++) {
            Check.told(x, "told order of READER " + r, x.reader(r, 3), ordered[r]);
        }
    }

    private static void wants() {
        Check.terms(1, "a PART (one figure, of those told ahead; of a READER each once)");
        fault("r0-9(0*1=1)", 5);
        fault("r0-9(0*1=1)p1", 5);
        fault("p1r0-9(1*1=1)", 7);
        fault("p1r0-9(1*1=1)p1", 7);
        fault("p1p1r0-9(2*1=1)", 9);
        fault("p1p1r0-9(9*1=1)", 9);
        fault(SIX + "r0-9(6*1=1)", 17);
        goesOn(SIX + "r0-9(5*1=1)", "p1p1r0-9(1*1=1)");
        fault("p1r0-9(00*1=1)", 8);
        fault("p1p1r0-9(01*1=1)", 10);
        fault("p1p1r0-9(0*1=1,0*2=2)", 15);
        fault("p1p1r0-9(1*1=1,0*1=1,1*1=1)", 21);
        goesOn("p1p1r0-9(0*1=1,1*1=1)r0-9(0*1=1,1*1=1)", "p1r0-9(0*1=1)r0-9(0*1=1)");
        fault("p1r0-9(x", 7);
        fault("p1r0-9(*1=1)", 7);
    }

    private static void wantNumbers() {
        Check.terms(1, "* (42) minutes (1 .. 20), = (61) WORTH (1 .. 9).");
        for (int minutes = 0; minutes <= 30; minutes++) {
            String text = "p1r0-9(0*" + minutes + "=1)";
            boolean isOne = minutes >= 1 && minutes <= 20;
            fault(text, isOne ? NONE : text.indexOf('='));
            if (isOne) {
                PaperRound x = of(text);
                Check.told(x, "minutes of " + text, x.want(0, 2), minutes);
            }
        }
        for (int worth = 0; worth <= 9; worth++) {
            fault("p1r0-9(0*1=" + worth + ")", worth > 0 ? NONE : 11);
            if (worth > 0) {
                PaperRound x = of("p1r0-9(0*20=" + worth + ")");
                Check.told(x, "WORTH", x.want(0, 3), worth);
            }
        }
        fault("p1r0-9(0*99=1)", 11);
        fault("p1r0-9(0*00=1)", 11);
        fault("p1r0-9(0*200=1)", 11);
        fault("p1r0-9(0*=1)", 9);
        fault("p1r0-9(0=1)", 8);
        fault("p1r0-9(0)", 8);
        fault("p1p1r0-9(0,1*1=1)", 10);
        fault("p1r0-9(0*0)", 10);
        fault("p1r0-9(0*21)", 11);
        fault("p1r0-9(0*)", 9);
        fault("p1r0-9(0*1)", 10);
        fault("p1r0-9(0*1*1)", 10);
        fault("p1r0-9(0*1=)", 11);
        fault("p1r0-9(0*1=x)", 11);
        fault("p1r0-9(0*1=10)", 12);
        fault("p1r0-9(0*1=00)", 11);
        fault("p1r0-9(0*1=-1)", 11);
        goesOn("p1r0-1(0*20=9)", "p1r0-9(0*01=1)");
    }

    /** As many WANTS as 120 bytes can tell: 15, so that the bound of 24 lies beyond every TEXT. */
    private static void mostWants() {
        Check.terms(1, "a twenty-fifth WANT: its figure;");
        int most = 0;
        for (int parts = 1; parts <= 6; parts++) {
            for (int readers = 1; readers <= 8; readers++) {
                for (int wants = readers; wants <= readers * parts; wants++) {
                    int size = 2 * parts + "r0-1()".length() * readers + "0*1=1".length() * wants + (wants - readers);
                    most = size <= 120 ? Math.max(most, wants) : most;
                }
            }
        }
        Check.due("the most WANTS that 120 bytes can tell", most, 15);
        Check.terms(1, "a WANT (24 at most):");
        String all = "(0*1=1,1*1=1,2*1=1,3*1=1,4*1=1,5*1=1)";
        String text = SIX + "r0-9" + all + "r0-9" + all + "r0-9(3*2=5,5*7=9,4*1=1)";
        Check.due("the text's size", text.length(), 117);
        PaperRound x = of(text);
        Check.due("WANTS", x.count(2), 15);
        Check.told(x, "WANTS of READER 0", x.reader(0, 2), 0x3f);
        Check.told(x, "WANTS of READER 1", x.reader(1, 2), 0xfc0);
        Check.told(x, "WANTS of READER 2", x.reader(2, 2), 0x7000);
        Check.told(x, "the last WANT's PART", x.want(14, 1), 4);
        Check.told(x, "the last WANT's READER", x.want(14, 0), 2);
        Check.refused(x, Check.BAD, "want(15, 0)", () -> x.want(15, 0));
    }

    private static void nots() {
        Check.terms(1, "n (110) r / (47) q @ (64) p: READER r does not want PART p AFTER READER q (unlike; of those told ahead; 8 such at most).");
        int size = TWO.length();
        goesOn(TWO + "n0/1@0", TWO + "n1/0@1", TWO + "n0/1@0n0/1@0", TWO + "n0/1@0".repeat(8));
        fault(TWO + "n0/0@0", size + 3);
        fault(TWO + "n1/1@0", size + 3);
        fault(TWO + "n2/1@0", size + 1);
        fault(TWO + "n0/2@0", size + 3);
        fault(TWO + "n9/9@9", size + 1);
        fault(TWO + "n0/9@9", size + 3);
        fault(TWO + "n0/1@2", size + 5);
        fault(TWO + "n0/1@9", size + 5);
        fault(TWO + "n0-1@0", size + 2);
        fault(TWO + "n0/1-0", size + 4);
        fault(TWO + "n00/1@0", size + 2);
        fault(TWO + "n0/1@00", size + 6);
        fault("n0/1@0" + TWO, 1);
        fault("p1r0-9(0*1=1)n0/1@0r0-9(0*1=1)", 16);
        fault("p1r0-9(0*1=1)r0-9(0*1=1)n0/1@1p1", 29);
        goesOn("p1r0-9(0*1=1)r0-9(0*1=1)n0/1@0p1r0-9(1*1=1)n2/0@1");
        fault(EIGHT + "n7/8@0", EIGHT.length() + 3);
        fault(EIGHT + "n8/7@0", EIGHT.length() + 1);
        goesOn(EIGHT + "n7/6@0");
        // Eight of each are not too many together; with these the text is full.
        goesOn("p1r0-9(0*1=1)r0-9(0*1=1)" + "n0/1@0".repeat(8) + "c0@0-0".repeat(8));
        fault("p1r0-9(0*1=1)r0-9(0*1=1)" + "c0@0-0".repeat(7) + "n0/1@0".repeat(8) + "n0/1@0", 24 + 90);
        PaperRound x = of(EIGHT + "n7/0@0n7/6@0n0/7@0");
        Check.told(x, "not AFTER READERS 0, 6", x.want(7, 5), 0x41);
        Check.told(x, "not AFTER READER 7", x.want(0, 5), 0x80);
        Check.told(x, "AFTER any", x.want(6, 5), 0);
    }

    private static void cushions() {
        Check.terms(1, "c (99) p @ a - b: PART p (of those told ahead) lies under a CUSHION in minutes a to b");
        int size = TWO.length();
        goesOn(TWO + "c0@1-2", TWO + "c1@1-2", TWO + "c0@1-2".repeat(8), SIX + "c5@0-60", "p1c0@1-2p1c1@1-2");
        fault(TWO + "c2@1-2", size + 1);
        fault(TWO + "c9@1-2", size + 1);
        fault("c0@1-2p1", 1);
        fault("p1c1@1-2p1", 3);
        fault(SIX + "c6@1-2", 13);
        fault("p1c00@1-2", 4);
        fault("p1c0/1-2", 4);
        fault("p1c0@1/2", 6);
        fault("p1c0@-2", 5);
        fault("p1c0@1-", 7);
        fault("p1c0@1-2-3", 8);
        PaperRound x = of("p1p1r0-60(0*1=1)r0-60(1*1=1)c0@5-7c0@9-9c0@6-8");
        for (int t = 3; t < 12; t++) {
            Check.due("can(0, " + t + ")", x.can(0, t), t >= 5 && t <= 9 ? 0 : 1);
            Check.due("can(1, " + t + "), the other PART", x.can(1, t), 2);
        }
    }

    private static void cushionMinutes() {
        Check.terms(1, "(0 .. 60, a no more than b; 8 such at most).");
        for (int a = 0; a <= 61; a++) {
            for (int b : new int[] {0, a - 1, a, a + 1, 59, 60, 61}) {
                String head = "p1c0@" + a;
                if (b >= 0) {
                    fault(head + "-" + b, a > 60 ? head.length() : b < a || b > 60 ? (head + "-" + b).length() : NONE);
                }
            }
        }
        goesOn("p1c0@00-00", "p1c0@9-09", "p1c0@60-60", "p1c0@0-60");
        fault("p1c0@99-99", 7);
        fault("p1c0@0-99", 9);
        fault("p1c0@0-600", 9);
        fault("p1" + "c0@0-0".repeat(9), 50);
        PaperRound x = of("p1r0-60(0*1=1)" + "c0@9-9".repeat(7) + "c0@3-3");
        Check.due("the eighth cushion", x.can(0, 3), 0);
        Check.due("no cushion", x.can(0, 4), 1);
    }

    private static void figures() {
        Check.terms(1, "PARTS, READERS, COPIES, f, WORTH have one figure, minutes one or two.");
        fault("p01", 1);
        fault("p1s09", 4);
        fault(TWO + "n01/0@0", TWO.length() + 2);
        fault(TWO + "n1/00@0", TWO.length() + 4);
        fault("p1r0-9(0*1=09)", 11);
        goesOn("m5", "m05", "p1:5", "p1:05", "p1r5-6(0*7=1)", "p1r05-06(0*07=1)", "p1c0@5-6", "p1c0@05-06");
        fault("m005", 3);
        fault("p1:005", 5);
        fault("p1r005-6(0*1=1)", 5);
        fault("p1r5-006(0*1=1)", 7);
        fault("p1r5-6(0*007=1)", 11);
        fault("p1c0@005-6", 7);
        fault("p1c0@5-006", 9);
        fault("p1c0@0-006", 9);
    }

    private static void firstFault() {
        Check.terms(1, "A FAULT is the first place at which it can't go on so (a number out of these: a minute: the place behind; a figure: its place;");
        fault("m0 m0", 2);
        fault("m61 p9", 3);
        fault("p9 m61", 1);
        fault("p1:60x", 5);
        fault("p1:75s", 5);
        fault("p1 q p1", 3);
        fault("p1r61-0()", 5);
        fault("p1r9-9x", 6);
        fault("p1r9-9(", 6);
        fault("p1r0-9(0*0x", 10);
        fault("p1r0-9(0*21", 11);
        fault("p1r0-9(0*1=0", 11);
        fault("p1c0@61x", 7);
        fault("p1c0@9-8x", 8);
        fault("p1c9@61", 3);
        fault(TWO + "n2/2@9", TWO.length() + 1);
    }

    private static void endsTooEarly() {
        Check.terms(1, "the TEXT's size, if its end comes too early).");
        String[] items = {"m", "p", "p1:", "p1s", "p1:5s", "r", "r0", "r00", "r0-", "r0-9", "r0-09", "r0-9(", "r0-9(!", "r0-9(0", "r0-9(0*",
            "r0-9(0*1", "r0-9(0*01", "r0-9(0*1=", "r0-9(0*1=1", "r0-9(0*1=1,", "r0-9(0*1=1,1", "n", "n0", "n0/", "n0/1", "n0/1@",
            "c", "c0", "c0@", "c0@1", "c0@01", "c0@1-"};
        for (String item : items) {
            fault(TWO + item, TWO.length() + item.length());
        }
        // What a longer text left behind the end does not count.
        String whole = TWO + "p1:15s3m12r10-20(!0*12=3,1*5=9)n0/1@0c0@11-12";
        for (int size = 0; size < whole.length(); size++) {
            PaperRound anew = new PaperRound();
            Check.write(anew, 1, whole.substring(0, size));
            PaperRound x = new PaperRound();
            Check.write(x, 1, whole);
            Check.write(x, 1, whole.substring(0, size));
            Check.due("fault behind a longer text, " + size, x.fault(1), anew.fault(1));
            Check.due("house behind a longer text, " + size, x.house(1), anew.house(1));
            Check.due("digest behind a longer text, " + size, x.digest(), anew.digest());
        }
        fault(" ".repeat(120 - 5) + "r0-9(", 120);
        fault(" ".repeat(119) + "m", 120);
    }

    private static void numbers() {
        Check.terms(1, "PARTS, READERS, WANTS are 0, 1, .. as they come.");
        PaperRound x = of("p1p2:3r0-9(1*2=3)p1s4r1-8(2*5=6,0*7=8)r2-7(0*9=1)");
        int[][] parts = {{1, 0, 0}, {2, 3, 0}, {1, 0, 4}};
        int[][] readers = {{0, 9, 1, 0}, {1, 8, 6, 0}, {2, 7, 8, 0}};
        int[][] wants = {{0, 1, 2, 3}, {1, 2, 5, 6}, {1, 0, 7, 8}, {2, 0, 9, 1}};
        for (int p = 0; p < 3; p++) {
            for (int what = 0; what < 3; what++) {
                Check.told(x, "part(" + p + ", " + what + ")", x.part(p, what), parts[p][what]);
            }
        }
        for (int r = 0; r < 3; r++) {
            for (int what = 0; what < 4; what++) {
                Check.told(x, "reader(" + r + ", " + what + ")", x.reader(r, what), readers[r][what]);
            }
        }
        for (int w = 0; w < 4; w++) {
            for (int what = 0; what < 4; what++) {
                Check.told(x, "want(" + w + ", " + what + ")", x.want(w, what), wants[w][what]);
            }
        }
        Check.terms(1, "Without a HOUSE there are none; LAST 60.");
        for (int i = 0; i < 4; i++) {
            int what = i;
            Check.gives(Homes::none, what == 3 ? 60 : 0, "count(" + what + ")", y -> y.count(what));
        }
    }

    // ---- promise 10

    private static void fault() {
        Check.says(10, "A FAULT of a TEXT; NONE: there is none.");
        Check.gives(Homes::full, NONE, "fault(0)", x -> x.fault(0));
        Check.gives(Homes::full, 1, "fault(1)", x -> x.fault(1));
        Check.gives(Homes::full, NONE, "fault(2), of no bytes", x -> x.fault(2));
        PaperRound x = Homes.full();
        for (int t = 0; t < 3; t++) {
            x.fault(t);
        }
        Check.due("digest() behind fault()", x.digest(), Homes.full().digest());
        Check.due("asked() behind fault()", x.asked(), Homes.full().asked());
        Check.due("judge() behind fault()", x.judge(), NONE);
        Check.due("can(1, 20), the cushion stays", x.can(1, 20), 0);
        PaperRound y = Homes.full();
        y.put(0, 0, 'x');
        Check.due("fault(0), as the text is now", y.fault(0), 0);
        y.put(0, 0, 'm');
        Check.due("fault(0), as the text was", y.fault(0), NONE);
        Check.says(10, "BAD; NOTHING.");
        Check.range(Homes::full, "fault(t)", 0, 3, (z, t) -> z.fault(t));
        Check.finding(Homes::full, Check.NOTHING, "fault(3)", z -> z.fault(3));
    }

    // ---- promise 11

    private static void house() {
        Check.says(11, "how many WANTS.");
        String[] texts = {"", "p1", "p1r0-9(0*1=1)", "p1p1r0-9(0*1=1,1*1=1)", EIGHT};
        int[] wants = {0, 0, 1, 2, 8};
        for (int i = 0; i < texts.length; i++) {
            PaperRound x = Homes.full();
            Check.write(x, 3, texts[i]);
            Check.due("house of '" + texts[i] + "'", x.house(3), wants[i]);
            Check.due("count(2)", x.count(2), wants[i]);
        }
        Check.says(11, "A HOUSE by a TEXT (anew; the PLAN is without READINGS, RULES are missing)");
        PaperRound x = Homes.full();
        x.post(0, 9, 9);
        x.late(0, 9, 10);
        x.copies(0, 2);
        x.read(2, 50);
        Check.due("house(0) again", x.house(0), 3);
        Check.due("READINGS", x.count(4), 0);
        Check.due("RULES", x.count(5), 0);
        Check.due("CARDS", x.count(6), 0);
        Check.begins(x, "the PLAN", NONE, NONE, NONE);
        for (int k = 0; k < 6; k++) {
            int n = k;
            Check.finds(x, Check.NOTHING, "run(" + k + ")", () -> x.run(n));
        }
        Check.told(x, "PART 0 comes", x.part(0, 1), 0);
        Check.told(x, "PART 0 is STALE", x.part(0, 2), 2);
        Check.told(x, "PART 0's COPIES", x.part(0, 0), 1);
        Check.told(x, "READER 0's b", x.reader(0, 1), 30);
    }

    private static void houseChanges() {
        Check.says(11, "A HOUSE by a TEXT (anew;");
        PaperRound x = Homes.full();
        int asked = x.asked();
        int finding = x.finding();
        Check.due("house(2), of no bytes", x.house(2), 0);
        Check.due("asked() stays", x.asked(), asked);
        Check.due("finding() stays", x.finding(), finding);
        Check.due("PARTS", x.count(0), 0);
        Check.due("READERS", x.count(1), 0);
        Check.due("WANTS", x.count(2), 0);
        Check.due("LAST", x.count(3), 60);
        Check.due("ROWS stay", x.count(7), 5);
        Check.due("TEXTS stay", x.count(8), 3);
        Check.told(x, "a row's ints stay", x.at(0, 2), Check.MAX);
        Check.due("a text's bytes stay", x.put(0, 0, 0), 1109);
        Check.refused(x, Check.BAD, "part(0, 0)", () -> x.part(0, 0));
        Check.refused(x, Check.BAD, "reader(0, 0)", () -> x.reader(0, 0));
        Check.refused(x, Check.BAD, "want(0, 0)", () -> x.want(0, 0));
        PaperRound y = Homes.full();
        y.put(0, 0, 'x');
        Check.told(y, "a house stays, whose text is changed", y.part(1, 1), 5);
        y.text(0, 3);
        Check.due("a house stays, whose text is anew", y.count(3), 40);
        PaperRound z = of("p1r0-60(0*1=1)r0-60(0*1=1)n0/1@0c0@5-5");
        Check.write(z, 1, "p1r0-60(0*1=1)r0-60(0*1=1)");
        z.house(1);
        Check.told(z, "no n of the house before", z.want(0, 5), 0);
        Check.due("no cushion of the house before", z.can(0, 5), 1);
        z.read(1, 3);
        Check.due("no AFTER of the house before", z.can(0, 5), 1);
    }

    private static PaperRound ofFour(int... turns) {
        String[] texts = {"p2p1s3r0-60(0*5=9,1*5=5)r0-60(0*5=9)n1/0@0c0@0-9c1@3-30", "m30p1:5p2r3-40(!1*3=2,0*5=9)r0-9(0*1=1)n0/1@0",
            "p1p1r0-60(0*5=9,1*5=5)r0-60(0*5=9)r0-60(1*7=4)", "p1r0-60(0*1=1)r9-20(0*4=3)"};
        PaperRound x = new PaperRound();
        for (int t = 0; t < 4; t++) {
            Check.write(x, t, texts[t]);
        }
        for (int t : turns) {
            Check.isTrue("house(" + t + ")", x.house(t) > 0);
        }
        return x;
    }

    /** Nothing of a house before comes into one anew, however many there have been. */
    private static void housesInTurn() {
        Check.says(11, "A HOUSE by a TEXT (anew; the PLAN is without READINGS, RULES are missing): how many WANTS.");
        int[][] turns = {{0, 1, 2}, {1, 0, 3}, {0, 0, 0}, {0, 2, 3}, {1, 2, 3}, {0, 1, 0, 2}, {0, 1, 1, 2, 3}, {2, 3, 0}, {3, 2, 1}};
        for (int[] turn : turns) {
            long[] got = Look.at(ofFour(turn));
            long[] due = Look.at(ofFour(turn[turn.length - 1]));
            for (int i = 0; i < due.length; i++) {
                Check.due("houses in turn " + java.util.Arrays.toString(turn) + ", " + Look.nameOf(i), got[i], due[i]);
            }
        }
        for (int late = 0; late < 4; late++) {
            PaperRound x = ofFour(3);
            for (int t = 0; t < 4; t++) {
                x.fault(t);
            }
            x.house(late);
            long[] got = Look.at(x);
            long[] due = Look.at(ofFour(late));
            for (int i = 0; i < due.length; i++) {
                Check.due("house(" + late + ") behind fault() of all, " + Look.nameOf(i), got[i], due[i]);
            }
        }
    }

    private static void houseRefused() {
        Check.says(11, "BAD; NOTHING; STATE: a FAULT. (STATE behind NOTHING.)");
        Check.range(Homes::full, "house(t)", 0, 3, (x, t) -> x.house(t));
        Check.finding(Homes::full, Check.NOTHING, "house(3)", x -> x.house(3));
        Check.refuses(Homes::full, Check.STATE, "house(1)", x -> x.house(1));
        Check.refuses(Homes::wrong, Check.STATE, "house(1), the plan does not go", x -> x.house(1));
        String[] late = {"m7p2:9s9r3-4(!0*9=9)c0@0-60p", "p1p2r0-9(1*1=1)r0-9(1*1=1)n1/0@1n0/1@1n0/1@2", "m9m60m61"};
        for (String text : late) {
            Check.Made withLate = () -> {
                PaperRound x = Homes.full();
                Check.write(x, 3, text);
                return x;
            };
            Check.refuses(withLate, Check.STATE, "house of a late fault, '" + text + "'", x -> x.house(3));
            PaperRound faulted = withLate.anew();
            faulted.fault(3);
            Check.due("fault() of a late fault changes nothing", faulted.digest(), withLate.anew().digest());
            Check.plan(faulted, NONE, NONE);
            Check.due("the house that stands goes on", faulted.can(1, 10), 4);
            Check.due("its cushion, too", faulted.can(1, 20), 0);
        }
    }

    // ---- promises 12 to 14

    private static void part() {
        Check.says(12, "Of a PART: 0 COPIES, 1 when it comes, 2 STALE, all told by asked(): 1.");
        PaperRound x = of("p1p2p1:59p2:1s9p1s1p2:10s5");
        int[][] due = {{1, 0, 0}, {2, 0, 0}, {1, 59, 0}, {2, 1, 9}, {1, 0, 1}, {2, 10, 5}};
        for (int p = 0; p < 6; p++) {
            for (int what = 0; what < 3; what++) {
                Check.told(x, "part(" + p + ", " + what + ")", x.part(p, what), due[p][what]);
            }
        }
        Check.says(12, "BAD.");
        Check.range(Homes::full, "part(p, 0)", 0, 1, (y, p) -> y.part(p, 0));
        Check.range(() -> of(SIX), "part(p, 2) of six", 0, 5, (y, p) -> y.part(p, 2));
        Check.range(Homes::full, "part(0, what)", 0, 2, (y, what) -> y.part(0, what));
    }

    private static void reader() {
        Check.says(13, "Of a READER: 0 a, 1 b, 2 his WANTS (bits), 3 whether in told order (1, 0), all told by asked(): 1.");
        PaperRound x = of("p1p1p1r0-60(0*1=1,2*1=1)r59-60(!1*1=1)r0-1(!2*1=1,1*1=1,0*1=1)r7-8(0*1=1)");
        int[][] due = {{0, 60, 3, 0}, {59, 60, 4, 1}, {0, 1, 56, 1}, {7, 8, 64, 0}};
        for (int r = 0; r < 4; r++) {
            for (int what = 0; what < 4; what++) {
                Check.told(x, "reader(" + r + ", " + what + ")", x.reader(r, what), due[r][what]);
            }
        }
        Check.says(13, "BAD.");
        Check.range(Homes::full, "reader(r, 0)", 0, 1, (y, r) -> y.reader(r, 0));
        Check.range(() -> of(EIGHT), "reader(r, 3) of eight", 0, 7, (y, r) -> y.reader(r, 3));
        Check.range(Homes::full, "reader(0, what)", 0, 3, (y, what) -> y.reader(0, what));
    }

    private static void want() {
        Check.says(14, "Of a WANT: 0 its READER, 1 PART, 2 minutes, 3 WORTH, 4 when it begins in the PLAN (NONE), 5 READERS AFTER whom it is not wanted (bits), all told by asked(): 1.");
        PaperRound x = of("p1p1r0-60(1*1=9)r0-60(0*20=1,1*7=5)r0-60(1*3=3)n0/2@1n1/2@1n1/0@1n1/2@0");
        Check.plan(x, 0, 59, NONE, 31);
        int[][] due = {{0, 1, 1, 9, 0, 4}, {1, 0, 20, 1, 59, 4}, {1, 1, 7, 5, NONE, 5}, {2, 1, 3, 3, 31, 0}};
        for (int w = 0; w < 4; w++) {
            for (int what = 0; what < 6; what++) {
                Check.told(x, "want(" + w + ", " + what + ")", x.want(w, what), due[w][what]);
            }
        }
        x.read(0, NONE);
        Check.told(x, "want(0, 4), out of the PLAN", x.want(0, 4), NONE);
        Check.says(14, "BAD.");
        Check.range(Homes::full, "want(w, 0)", 0, 2, (y, w) -> y.want(w, 0));
        Check.range(() -> of(EIGHT), "want(w, 5) of eight", 0, 7, (y, w) -> y.want(w, 5));
        Check.range(Homes::full, "want(0, what)", 0, 5, (y, what) -> y.want(0, what));
    }

    // ---- promises 15 to 17

    private static void copies() {
        Check.says(15, "A PART has n COPIES (1, 2): how many it had.");
        PaperRound x = of("p1p2");
        int[][] calls = {{0, 1, 1}, {0, 2, 1}, {0, 2, 2}, {0, 1, 2}, {1, 2, 2}, {1, 1, 2}, {1, 2, 1}};
        for (int[] c : calls) {
            Check.due("copies(" + c[0] + ", " + c[1] + ")", x.copies(c[0], c[1]), c[2]);
            Check.told(x, "part(" + c[0] + ", 0)", x.part(c[0], 0), c[1]);
        }
        Check.told(x, "part(0, 0), the other", x.part(0, 0), 1);
        PaperRound two = of("p1r0-9(0*5=1)r0-9(0*5=1)");
        Check.plan(two, 0, 0);
        Check.due("judge() by one COPY", two.judge(), 0);
        two.copies(0, 2);
        Check.due("judge() by two COPIES", two.judge(), NONE);
        Check.due("the PLAN stays", two.count(4), 2);
        Check.says(15, "BAD.");
        Check.range(Homes::full, "copies(p, 1)", 0, 1, (y, p) -> y.copies(p, 1));
        Check.range(() -> of(SIX), "copies(p, 2) of six", 0, 5, (y, p) -> y.copies(p, 2));
        Check.range(Homes::full, "copies(0, n)", 1, 2, (y, n) -> y.copies(0, n));
    }

    private static void post() {
        Check.says(16, "A PART comes in minute a (0 .. 59), STALE by f (0 .. 9): 1.");
        PaperRound x = of("p1:7s7p1");
        for (int[] c : new int[][] {{0, 0}, {59, 9}, {0, 9}, {59, 0}, {1, 8}, {58, 1}}) {
            Check.due("post(1, " + c[0] + ", " + c[1] + ")", x.post(1, c[0], c[1]), 1);
            Check.told(x, "part(1, 1)", x.part(1, 1), c[0]);
            Check.told(x, "part(1, 2)", x.part(1, 2), c[1]);
            Check.told(x, "part(1, 0)", x.part(1, 0), 1);
            Check.told(x, "part(0, 1), the other", x.part(0, 1), 7);
        }
        PaperRound y = of("p1r0-60(0*1=9)");
        y.read(0, 10);
        y.post(0, 11, 4);
        Check.due("judge() behind post()", y.judge(), 10);
        Check.due("missed(0) behind post()", y.missed(0), 4);
        Check.says(16, "BAD.");
        Check.range(Homes::full, "post(p, 0, 0)", 0, 1, (z, p) -> z.post(p, 0, 0));
        Check.range(Homes::full, "post(0, a, 9)", 0, 59, (z, a) -> z.post(0, a, 9));
        Check.range(Homes::full, "post(1, 59, f)", 0, 9, (z, f) -> z.post(1, 59, f));
        Check.range(() -> of(SIX), "post(p, 59, 9) of six", 0, 5, (z, p) -> z.post(p, 59, 9));
    }

    private static void late() {
        Check.says(17, "A READER is in from a till b (0 .. 60, a below b): 1.");
        for (int a = 0; a <= 60; a++) {
            PaperRound x = Homes.full();
            for (int b : new int[] {a + 1, 60}) {
                if (b > a && b <= 60) {
                    Check.due("late(1, " + a + ", " + b + ")", x.late(1, a, b), 1);
                    Check.told(x, "reader(1, 0)", x.reader(1, 0), a);
                    Check.told(x, "reader(1, 1)", x.reader(1, 1), b);
                }
            }
            Check.told(x, "reader(0, 1), the other", x.reader(0, 1), 30);
        }
        PaperRound y = of("p1r0-60(0*5=9)");
        y.read(0, 10);
        y.late(0, 10, 14);
        Check.due("judge() behind late()", y.judge(), 14);
        y.late(0, 11, 15);
        Check.due("judge() behind late(), not in yet", y.judge(), 10);
        Check.says(17, "BAD.");
        Check.range(Homes::full, "late(r, 0, 60)", 0, 1, (z, r) -> z.late(r, 0, 60));
        Check.range(() -> of(EIGHT), "late(r, 59, 60) of eight", 0, 7, (z, r) -> z.late(r, 59, 60));
        Check.range(Homes::full, "late(0, a, 60)", 0, 59, (z, a) -> z.late(0, a, 60));
        Check.range(Homes::full, "late(0, 0, b)", 1, 60, (z, b) -> z.late(0, 0, b));
        Check.range(Homes::full, "late(0, 30, b)", 31, 60, (z, b) -> z.late(0, 30, b));
        Check.range(Homes::full, "late(0, a, 30)", 0, 29, (z, a) -> z.late(0, a, 30));
        Check.bad(Homes::full, "late(0, 60, 60)", z -> z.late(0, 60, 60));
        Check.bad(Homes::full, "late(0, 60, 61)", z -> z.late(0, 60, 61));
        Check.bad(Homes::full, "late(0, -1, 0)", z -> z.late(0, -1, 0));
        Check.bad(Homes::full, "late(0, 0, 0)", z -> z.late(0, 0, 0));
    }
}
