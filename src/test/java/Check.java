import java.util.function.LongSupplier;

/** What the tests share: answers that are due, and houses told by a line of text. */
final class Check {
    static final int BAD = PaperRound.BAD, STATE = PaperRound.STATE, SPENT = PaperRound.SPENT;
    static final int FINDING = PaperRound.FINDING, NONE = PaperRound.NONE;
    static final int NOTHING = 1, BEYOND = 2, UNLIKE = 3, NOUGHT = 4, SIZE = 5;

    private static int asked = 0;
    private static int wrong = 0;

    private Check() {
    }

    static void due(String what, long got, long want) {
        asked++;
        if (got != want) {
            wrong++;
            if (wrong <= 40) {
                System.out.println(what + " answered " + got + ", due is " + want);
            }
        }
    }

    /** A call that answers 1 and tells by asked(). */
    static void told(PaperRound x, String what, long answer, long told) {
        due(what, answer, 1);
        due(what + ", asked()", x.asked(), told);
    }

    /** A call that answers FINDING, with the finding that it is. */
    static void finds(PaperRound x, int finding, String what, LongSupplier call) {
        int before = x.findings(finding);
        due(what, call.getAsLong(), FINDING);
        due(what + ", finding()", x.finding(), finding);
        due(what + ", findings()", x.findings(finding), before + 1);
    }

    /** A call that is refused and changes nothing. */
    static void refused(PaperRound x, int refusal, String what, LongSupplier call) {
        long before = x.digest();
        int askedBefore = x.asked();
        due(what, call.getAsLong(), refusal);
        due(what + ", digest() behind", x.digest(), before);
        due(what + ", asked() behind", x.asked(), askedBefore);
    }

    static void write(PaperRound x, int t, String text) {
        x.text(t, text.length());
        for (int i = 0; i < text.length(); i++) {
            if (text.charAt(i) != ' ') {
                x.put(t, i, text.charAt(i));
            }
        }
    }

    static PaperRound house(String text) {
        PaperRound x = new PaperRound();
        write(x, 0, text);
        int wants = x.house(0);
        if (wants < 0) {
            due("house of " + text, wants, 0);
        }
        return x;
    }

    static void fill(PaperRound x, int r, int... values) {
        x.row(r, values.length);
        for (int i = 0; i < values.length; i++) {
            x.lay(r, i, values[i]);
        }
    }

    static void begins(PaperRound x, String what, int... due) {
        for (int w = 0; w < due.length; w++) {
            told(x, what + ", want(" + w + ", 4)", x.want(w, 4), due[w]);
        }
    }

    static void holds(PaperRound x, String what, int r, int... due) {
        for (int i = 0; i < due.length; i++) {
            told(x, what + ", at(" + r + ", " + i + ")", x.at(r, i), due[i]);
        }
        due(what + ", behind the row's end", x.at(r, due.length), FINDING);
    }

    static void end() {
        System.out.println(wrong == 0 ? asked + " answers are as due" : wrong + " of " + asked + " answers are not as due");
        if (wrong != 0) {
            System.exit(1);
        }
    }
}
