import java.util.function.LongSupplier;

/** What the tests share: answers that are due, refusals held against a twin, and houses told by a line of text. */
final class Check {
    static final int BAD = PaperRound.BAD, STATE = PaperRound.STATE, SPENT = PaperRound.SPENT;
    static final int FINDING = PaperRound.FINDING, NONE = PaperRound.NONE;
    static final int NOTHING = 1, BEYOND = 2, UNLIKE = 3, NOUGHT = 4, SIZE = 5;
    static final int MIN = Integer.MIN_VALUE, MAX = Integer.MAX_VALUE;

    /** Makes an object, alike each time. */
    interface Made {
        PaperRound anew();
    }

    interface Call {
        long on(PaperRound x);
    }

    interface CallWith {
        long on(PaperRound x, int v);
    }

    private static int asked = 0;
    private static int wrong = 0;
    private static String sentence = "";
    private static int askedAhead = -1;

    private Check() {
    }

    // ---- the document's words

    /** What is asked from here on is held against these words of a promise. */
    static void says(int promise, String words) {
        begin("promise " + promise, Document.promise(promise), words);
    }

    /** What is asked from here on is held against these words of the Terms (0: ANSWERS). */
    static void terms(int part, String words) {
        begin("terms " + part, Document.terms(part), words);
    }

    private static void begin(String where, String document, String words) {
        leaveSentence();
        sentence = where + " '" + words + "': ";
        due("the document's words", document.contains(words) ? 1 : 0, 1);
        askedAhead = asked;
    }

    private static void leaveSentence() {
        if (askedAhead == asked) {
            due("answers asked for it", 0, 1);
        }
        sentence = "";
        askedAhead = -1;
    }

    // ---- answers

    static void due(String what, long got, long want) {
        asked++;
        if (got != want) {
            wrong++;
            if (wrong <= 40) {
                System.out.println(sentence + what + " answered " + got + ", due is " + want);
            }
        }
    }

    static void isTrue(String what, boolean is) {
        due(what, is ? 1 : 0, 1);
    }

    /** A call that answers 1 and tells by asked(). */
    static void told(PaperRound x, String what, long answer, long told) {
        due(what, answer, 1);
        due(what + ", asked()", x.asked(), told);
    }

    /** The answer of a call on a new object. */
    static void gives(Made made, long answer, String what, Call call) {
        due(what, call.on(made.anew()), answer);
    }

    // ---- refusals

    /** A call that answers FINDING, with the finding that it is. */
    static void finds(PaperRound x, int finding, String what, LongSupplier call) {
        int before = x.findings(finding);
        due(what, call.getAsLong(), FINDING);
        due(what + ", finding()", x.finding(), finding);
        due(what + ", findings()", x.findings(finding), before + 1);
    }

    /** A call that is refused and changes nothing. */
    static void refused(PaperRound x, int refusal, String what, LongSupplier call) {
        long before = x.digest();
        int askedBefore = x.asked();
        due(what, call.getAsLong(), refusal);
        due(what + ", digest() behind", x.digest(), before);
        due(what + ", asked() behind", x.asked(), askedBefore);
    }

    /** A call that is refused, but for a FINDING; behind it the object is as a twin that was not asked. */
    static void refuses(Made made, int refusal, String what, Call call) {
        PaperRound x = made.anew();
        due(what, call.on(x), refusal);
        alike(what, Look.at(x), Look.at(made.anew()));
    }

    static void bad(Made made, String what, Call call) {
        refuses(made, BAD, what, call);
    }

    /** A call that answers FINDING; behind it just finding() and findings() are other than those of a twin. */
    static void finding(Made made, int finding, String what, Call call) {
        PaperRound x = made.anew();
        due(what, call.on(x), FINDING);
        long[] dues = Look.at(made.anew());
        dues[Look.LATEST] = finding;
        dues[Look.LATEST + finding]++;
        alike(what, Look.at(x), dues);
    }

    /** Numbers from low to high are taken, all others are BAD. */
    static void range(Made made, String what, int low, int high, CallWith call) {
        for (int v = low; v <= high; v++) {
            isTrue(what + " is taken with " + v, call.on(made.anew(), v) != BAD);
        }
        for (int v : new int[] {MIN, MIN + 1, low - 256, low - 2, low - 1, high + 1, high + 2, high + 256, MAX}) {
            bad(made, what + " with " + v, x -> call.on(x, v));
        }
    }

    private static void alike(String what, long[] got, long[] want) {
        due(what + ", as much to see behind it", got.length, want.length);
        for (int i = 0; i < got.length && i < want.length; i++) {
            due(what + ", behind it " + Look.nameOf(i), got[i], want[i]);
        }
    }

    // ---- objects

    static void write(PaperRound x, int t, String text) {
        x.text(t, text.length());
        for (int i = 0; i < text.length(); i++) {
            if (text.charAt(i) != ' ') {
                x.put(t, i, text.charAt(i));
            }
        }
    }

    static PaperRound house(String text) {
        PaperRound x = new PaperRound();
        write(x, 0, text);
        int wants = x.house(0);
        if (wants < 0) {
            due("house of " + text, wants, 0);
        }
        return x;
    }

    static void fill(PaperRound x, int r, int... values) {
        x.row(r, values.length);
        for (int i = 0; i < values.length; i++) {
            x.lay(r, i, values[i]);
        }
    }

    /** The readings of a plan, from want 0 on. */
    static void plan(PaperRound x, int... begins) {
        for (int w = 0; w < begins.length; w++) {
            x.read(w, begins[w]);
        }
    }

    static void begins(PaperRound x, String what, int... due) {
        for (int w = 0; w < due.length; w++) {
            told(x, what + ", want(" + w + ", 4)", x.want(w, 4), due[w]);
        }
    }

    static void holds(PaperRound x, String what, int r, int... due) {
        for (int i = 0; i < due.length; i++) {
            told(x, what + ", at(" + r + ", " + i + ")", x.at(r, i), due[i]);
        }
        due(what + ", behind the row's end", x.at(r, due.length), FINDING);
    }

    static void end() {
        leaveSentence();
        System.out.println(wrong == 0 ? asked + " answers are as due" : wrong + " of " + asked + " answers are not as due");
        if (wrong != 0) {
            System.exit(1);
        }
    }
}
