import java.util.regex.Pattern;

/**
 * Promise 10: "NONE - the place of the sign at which it is no beginning of a question (its length
 * at the end)": every short text of the signs that matter, alone and behind beginnings that are
 * near a boundary. A beginning of a question is looked for as the sentence says it: some signs
 * more make it a question.
 */
public final class ShortTextsTest extends Checks {
    private static final String SIGNS = "aZ~013469:@- ?";
    private static final int TEXTS_AN_OBJECT = 40;

    private static final String TERM = "([a-z]{1,10}|[a-z]{1,10}~|[0-3]:([0-9]|0[0-9]|1[0-5])|@[0-9]{1,4}-[0-9]{1,4})";
    private static final Pattern QUESTION = Pattern.compile(" *(" + TERM + "( +" + TERM + "){0,7})? *");
    /** What is missing at the least, wherever in a term a text ends. */
    private static final String[] MORE = {"", "0", ":0", "-0", "0-0"};

    private static Search asked = new Search();
    private static int texts = 0;

    public static void main(String[] args) {
        runAll(ShortTextsTest.class);
    }

    /** Promise 10: texts of up to five signs. */
    static void textsOfUpToFiveSigns() {
        askAll("", 5);
    }

    /** Promise 10, and Terms: "letters (1 .. 10)", "letters (1 .. 10), then 126". */
    static void behindNineLetters() {
        askAll("abcdefghi", 4);
    }

    /** Promise 10, and Terms: "a number 0 .. 15 of one or two digits". */
    static void behindAFacet() {
        askAll(" 3:", 4);
    }

    /** Promise 10, and Terms: "each of 1 .. 4 digits". */
    static void behindThreeDigits() {
        askAll("@123", 4);
        askAll("@1-123", 4);
    }

    /** Promise 10, and Terms: "At most eight terms". */
    static void behindSevenTerms() {
        askAll("a 0:1 @1-2 b~ c d  e", 4);
        askAll("a 0:1 @1-2 b~ c d e f ", 4);
    }

    /** Promise 10, and Terms: "at most 60 SIGNS": up to the last one. */
    static void upToTheSixtiethSign() {
        askAll(Questions.repeated(" ", 56), 4);
        askAll(Questions.repeated(" ", 51) + "@0-5 ", 4);
    }

    private static void askAll(String ahead, int signs) {
        askAndGoOn(ahead, NONE, signs);
    }

    /** The place of the fault is NONE as long as the text is a beginning of a question. */
    private static void askAndGoOn(String text, int place, int signs) {
        String small = text.toLowerCase(java.util.Locale.ROOT);
        int fault = place != NONE || isBeginning(small) ? place : text.length() - 1;
        askOne(text, small, fault);
        for (int i = 0; i < SIGNS.length() && signs > 0; i++) {
            askAndGoOn(text + SIGNS.charAt(i), fault, signs - 1);
        }
    }

    private static boolean isBeginning(String text) {
        for (String more : MORE) {
            if (QUESTION.matcher(text + more).matches()) {
                return true;
            }
        }
        return false;
    }

    private static void askOne(String text, String small, int fault) {
        if (texts % TEXTS_AN_OBJECT == 0) {
            asked = new Search();
        }
        texts++;
        asked.put(text);
        if (fault == NONE && QUESTION.matcher(small).matches()) {
            due("'" + text + "'", asked.ask(0), 0);
            due("terms of '" + text + "'", asked.count(5), termsOf(small));
            due("signs of the pad behind '" + text + "'", asked.clear(), 0);
        } else {
            due("'" + text + "'", asked.ask(0), NONE - (fault == NONE ? text.length() : fault));
            due("signs of the pad behind '" + text + "'", asked.clear(), text.length());
        }
    }

    private static int termsOf(String question) {
        String terms = question.trim();
        return terms.isEmpty() ? 0 : terms.split(" +").length;
    }
}
