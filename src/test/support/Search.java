/**
 * A FacetSearch with texts for its pad. Its calls are counted: the document promises nothing
 * behind the 512th, so a test that goes further is itself at fault.
 */
final class Search {
    private static final int PROMISED_CALLS = 512;
    private static final int SIGNS_A_CALL = 20;

    private final FacetSearch its = new FacetSearch();
    private int calls = 0;

    // --- the calls of the face

    int feed(int a, int b, int c, int d, int e) {
        return called().feed(a, b, c, d, e);
    }

    int clear() {
        return called().clear();
    }

    int record() {
        return called().record();
    }

    int word(int record) {
        return called().word(record);
    }

    int facet(int record, int facet, int value) {
        return called().facet(record, facet, value);
    }

    boolean parent(int facet, int value, int of) {
        return called().parent(facet, value, of);
    }

    /** Answers null, so that it can stand where an answer is looked at. */
    Object span(int record, int from, int to) {
        called().span(record, from, to);
        return null;
    }

    boolean right(int record, int role, boolean on) {
        return called().right(record, role, on);
    }

    int ask(int role) {
        return called().ask(role);
    }

    int hit(int k, int what) {
        return called().hit(k, what);
    }

    int score(int k, int term) {
        return called().score(k, term);
    }

    int counted(int facet, int value) {
        return called().counted(facet, value);
    }

    int far(int a, int b) {
        return called().far(a, b);
    }

    int like(int record, int k) {
        return called().like(record, k);
    }

    int letter(int record, int n, int i) {
        return called().letter(record, n, i);
    }

    int count(int what) {
        return called().count(what);
    }

    // --- several calls at once

    static Search withRecords(int records) {
        Search x = new Search();
        for (int i = 0; i < records; i++) {
            x.record();
        }
        return x;
    }

    /** Feeds a text behind the pad; answers how many signs the pad has then. */
    int put(String text) {
        int signs = 0;
        int from = 0;
        do {
            signs = feed(four(text, from), four(text, from + 4), four(text, from + 8),
                    four(text, from + 12), four(text, from + 16));
            from += SIGNS_A_CALL;
        } while (from < text.length());
        return signs;
    }

    int word(int record, String text) {
        put(text);
        return word(record);
    }

    void words(int record, String... texts) {
        for (String text : texts) {
            word(record, text);
        }
    }

    /** Asks a text in place of what the pad has. */
    int ask(int role, String text) {
        clear();
        put(text);
        return ask(role);
    }

    /** A record's n-th word as a text. */
    String wordOf(int record, int n) {
        int length = letter(record, n, -1);
        StringBuilder text = new StringBuilder();
        for (int i = 0; i < length; i++) {
            text.append((char) letter(record, n, i));
        }
        return text.toString();
    }

    /** The hits' records, told in their order. */
    String hits() {
        StringBuilder all = new StringBuilder();
        int hits = count(4);
        for (int k = 0; k < hits; k++) {
            all.append(k == 0 ? "" : " ").append(hit(k, 0));
        }
        return all.toString();
    }

    int callsLeft() {
        return PROMISED_CALLS - calls;
    }

    private FacetSearch called() {
        if (calls >= PROMISED_CALLS) {
            throw new AssertionError("the test makes more calls than an object is promised for");
        }
        calls++;
        return its;
    }

    private static int four(String text, int from) {
        int four = 0;
        for (int i = 0; i < 4 && from + i < text.length(); i++) {
            four |= text.charAt(from + i) << 8 * i;
        }
        return four;
    }
}
