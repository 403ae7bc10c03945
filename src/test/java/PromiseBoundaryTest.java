/**
 * The boundaries that promises 1 to 17 of the document name, a test for each sentence: calls up to
 * the boundary, at it, and behind it. That refused calls change nothing is RefusedCallsTest's.
 */
public final class PromiseBoundaryTest extends Checks {
    private static final String TEN = "abcdefghij";
    private static final int POSITIONS = 20;

    public static void main(String[] args) {
        runAll(PromiseBoundaryTest.class);
    }

    /** A word of its own for each n: "wa", "wb" and so on. */
    private static String nth(int n) {
        return "w" + (char) ('a' + n);
    }

    private static Search withWords(int words) {
        Search x = Search.withRecords(1);
        for (int n = 0; n < words; n++) {
            x.word(0, nth(n));
        }
        return x;
    }

    // --- promise 1

    /** Promise 1: "No records". */
    static void newObjectHasNoRecords() {
        Search x = new Search();
        due("records", x.count(1), 0);
        due("words of all records", x.count(2), 0);
        due("different words", x.count(3), 0);
        dueOf("record 0 of facet", NO_SUCH, () -> x.facet(0, 0, 0));
        dueOf("record 0 of word", NO_SUCH, () -> x.word(0));
        dueOf("record 0 of span", NO_SUCH, () -> x.span(0, 0, 0));
        dueOf("record 0 of right", NO_SUCH, () -> x.right(0, 0, true));
        dueOf("record 0 of far", NO_SUCH, () -> x.far(0, 0));
        dueOf("record 0 of like", NO_SUCH, () -> x.like(0, 0));
        dueOf("record 0 of letter", NO_SUCH, () -> x.letter(0, 0, -1));
        due("hits of a question without terms", x.ask(0), 0);
        due("the first record", x.record(), 0);
    }

    /** Promise 1: "an empty pad". */
    static void newObjectHasAnEmptyPad() {
        Search x = new Search();
        due("signs", x.count(0), 0);
        due("cleared", x.clear(), 0);
        due("nothing fed", x.feed(0, 0, 0, 0, 0), 0);
        x.record();
        dueOf("as a word", ARGUMENT, () -> x.word(0));
        due("as a question", x.ask(0), 1);
        due("its terms", x.count(5), 0);
    }

    /** Promise 1: an object is new whatever others hold. */
    static void newObjectBesideAFullOne() {
        Search full = Scenes.full("pad").make();
        Search x = new Search();
        for (int what = 0; what <= 5; what++) {
            due("count " + what, x.count(what), 0);
        }
        x.record();
        due("value", x.facet(0, 3, 0), NONE);
        due("parent", x.ask(0, "3:15"), 0);
        due("the full one's records", full.count(1), 32);
        due("the full one's pad", full.clear(), 3);
    }

    // --- promise 2

    private static int fed(Search x, int[] signs) {
        int[] fours = new int[5];
        for (int position = 0; position < POSITIONS; position++) {
            fours[position / 4] |= signs[position] << position % 4 * 8;
        }
        return x.feed(fours[0], fours[1], fours[2], fours[3], fours[4]);
    }

    /** Promise 2: "of a, then of b, and so on, the lowest eight bits first": any two of the 20 places. */
    static void signsOfAThenOfBTheLowestBitsFirst() {
        for (int first = 0; first < POSITIONS; first++) {
            for (int second = first + 1; second < POSITIONS; second++) {
                Search x = Search.withRecords(1);
                int[] signs = new int[POSITIONS];
                signs[first] = 'z';
                signs[second] = 'a';
                due("two signs", fed(x, signs), 2);
                x.word(0);
                due("signs at " + first + " and " + second, x.wordOf(0, 0), "za");
            }
        }
    }

    /** Promise 2: "Signs come behind the pad". */
    static void signsComeBehindThePad() {
        Search x = Search.withRecords(1);
        for (int n = 0; n < 10; n++) {
            x.feed(0, 0, TEN.charAt(n) << 24, 0, 0);
        }
        x.word(0);
        due("one by one", x.wordOf(0, 0), TEN);
        Search y = Search.withRecords(1);
        y.put(Questions.repeated(" ", 40));
        due("twenty at once behind forty", y.put("      " + TEN + "~   "), 60);
        due("no words", y.ask(0), 0);
        due("its term", y.count(5), 1);
    }

    /** Promise 2: "0 is none": at each of the 20 places, and at all. */
    static void zeroIsNoSign() {
        for (int zero = 0; zero < POSITIONS; zero++) {
            Search x = Search.withRecords(1);
            int[] signs = new int[POSITIONS];
            java.util.Arrays.fill(signs, 'a');
            signs[zero] = 0;
            due("all but " + zero, fed(x, signs), 19);
            java.util.Arrays.fill(signs, 0);
            due("none", fed(x, signs), 19);
            signs[zero] = 'a';
            due("only " + zero, fed(x, signs), 20);
        }
    }

    /** Promise 2: "how many there are": the whole pad's signs, from 0 to 60. */
    static void feedTellsHowManyThereAre() {
        Search x = new Search();
        int there = 0;
        for (int more : new int[] {0, 1, 20, 0, 19, 2, 17, 0, 1}) {
            int[] signs = new int[POSITIONS];
            java.util.Arrays.fill(signs, 0, more, '?');
            there += more;
            due("with " + more + " more", fed(x, signs), there);
            due("count", x.count(0), there);
        }
        due("full", there, 60);
    }

    /** Promise 2: "IllegalArgumentException: a sign is above 127": 127, 128 and 255 at each of the 20 places. */
    static void signAbove127() {
        for (int position = 0; position < POSITIONS; position++) {
            for (int sign : new int[] {127, 128, 129, 200, 255}) {
                Search x = new Search();
                int[] signs = new int[POSITIONS];
                java.util.Arrays.fill(signs, 'a');
                signs[position] = sign;
                dueOf("sign " + sign + " at " + position, sign == 127 ? "20" : ARGUMENT, () -> fed(x, signs));
                due("signs behind it", x.count(0), sign == 127 ? 20 : 0);
            }
        }
        Search x = new Search();
        for (int four : new int[] {-1, Integer.MIN_VALUE, 0x80, 0x8000, 0x800000, 0x7f7f7f80, 0x807f7f7f}) {
            dueOf("four signs " + four, ARGUMENT, () -> x.feed(four, 0, 0, 0, 0));
        }
        due("the greatest four signs", x.feed(Integer.MAX_VALUE & 0x7f7f7f7f, 0, 0, 0, 0), 4);
    }

    /** Promise 2: "IllegalStateException: there would be more than 60": by 1 .. 20 signs at once. */
    static void moreThanSixtySigns() {
        for (int more = 1; more <= POSITIONS; more++) {
            int[] signs = new int[POSITIONS];
            java.util.Arrays.fill(signs, POSITIONS - more, POSITIONS, 'b');
            for (int over = -1; over <= more; over++) {
                Search x = new Search();
                int there = 60 + over - more;
                x.put(Questions.repeated("a", there));
                dueOf(more + " behind " + there, over > 0 ? STATE : "" + (60 + over), () -> fed(x, signs));
                due("signs behind it", x.count(0), over > 0 ? there : 60 + over);
            }
        }
    }

    /** Promise 2, and Exceptions: "IllegalArgumentException, then IllegalStateException". */
    static void signAbove127AheadOfMoreThanSixty() {
        for (int position = 0; position < POSITIONS; position++) {
            Search x = new Search();
            x.put(Scenes.SIXTY_SIGNS);
            int[] signs = new int[POSITIONS];
            java.util.Arrays.fill(signs, 'a');
            dueOf("twenty more", STATE, () -> fed(x, signs));
            signs[position] = 128;
            dueOf("sign 128 at " + position, ARGUMENT, () -> fed(x, signs));
            due("signs behind it", x.count(0), 60);
        }
    }

    // --- promise 3

    /** Promise 3: "The pad is empty: how many signs it had": 0 to 60. */
    static void clearTellsHowManySignsItHad() {
        for (int signs = 0; signs <= 60; signs++) {
            Search x = Search.withRecords(1);
            x.put(Questions.repeated("a", signs));
            due("signs", x.clear(), signs);
            due("signs behind it", x.count(0), 0);
            due("again", x.clear(), 0);
            due("as a question", x.ask(0), 1);
            due("its terms", x.count(5), 0);
            due("room for all sixty", x.put(Questions.repeated("b", 60)), 60);
        }
        Search x = Search.withRecords(1);
        x.put("abc");
        x.clear();
        x.put("z");
        x.word(0);
        due("nothing is left of it", x.wordOf(0, 0), "z");
    }

    // --- promise 4

    /** Promise 4: "A record: its number": 0 to 31. "IllegalStateException: there are 32". */
    static void recordsNumber() {
        Search x = new Search();
        for (int n = 0; n < 32; n++) {
            due("records", x.count(1), n);
            due("record", x.record(), n);
        }
        for (int n = 0; n < 3; n++) {
            dueOf("record 32", STATE, x::record);
            due("records", x.count(1), 32);
        }
    }

    /** Promise 4: "A record": without words, values and a span, seen by all, whatever the others are. */
    static void newRecordBehindUsedOnes() {
        Search x = Scenes.small("").make();
        due("record", x.record(), 4);
        dueOf("its words", NO_SUCH, () -> x.letter(4, 0, -1));
        due("nearest words", x.far(4, 0), NONE);
        due("like it", x.like(4, 0), NONE);
        due("by its years", x.ask(7, "@0-9999"), 3);
        for (int role = 0; role < 8; role++) {
            due("seen by role " + role, x.right(4, role, true), false);
        }
        for (int facet = 0; facet < 4; facet++) {
            due("value of facet " + facet, x.facet(4, facet, NONE), NONE);
        }
    }

    // --- promise 5

    /** Promise 5: "The pad, as a word, is a record's word; the pad is empty then". */
    static void padIsARecordsWordAndEmptyThen() {
        for (int length = 1; length <= 10; length++) {
            Search x = Search.withRecords(2);
            x.put(TEN.substring(0, length));
            due("its words", x.word(1), 1);
            due("signs behind it", x.count(0), 0);
            due("the word", x.wordOf(1, 0), TEN.substring(0, length));
            x.put(TEN.substring(0, length).toUpperCase(java.util.Locale.ROOT));
            due("the same again", x.word(1), 1);
            due("signs behind it", x.count(0), 0);
            dueOf("the empty pad is no word", ARGUMENT, () -> x.word(1));
            dueOf("the other record has none", NO_SUCH, () -> x.letter(0, 0, -1));
        }
    }

    /** Promise 5: "how many it has": 1 to 12, and no more for one that it has. */
    static void wordTellsHowManyItHas() {
        Search x = Search.withRecords(2);
        x.word(1, "other");
        for (int n = 0; n < 12; n++) {
            due("word " + n, x.word(0, nth(n)), n + 1);
            due("the first again", x.word(0, nth(0)), n + 1);
            due("the latest again", x.word(0, nth(n)), n + 1);
        }
    }

    /** Promise 5: "NoSuchElementException": the record, ahead of whether the pad is a word. */
    static void wordOfNoRecord() {
        for (String pad : new String[] {"coin", "", "1", TEN + "k"}) {
            Search x = Search.withRecords(3);
            x.put(pad);
            for (int record : outside(3)) {
                dueOf("'" + pad + "' of record " + record, NO_SUCH, () -> x.word(record));
            }
            due("signs behind it", x.count(0), pad.length());
            due("words behind it", x.count(2), 0);
        }
    }

    /** Promise 5: "IllegalArgumentException: it is no word". */
    static void padThatIsNoWord() {
        String[] none = {"", " ", TEN + "k", TEN + TEN + TEN + TEN + TEN + TEN, TEN + " ", " " + TEN, "a b", "a ", " a", "a~", "~", "1", "a1",
            "1a", "0:1", "@1-2", "a-b", "@", "[", "`", "{", "a@", "a[", "a`", "a{", "\u0001", "a\u0001", "\u007f", "a\u007f"};
        for (String pad : none) {
            Search x = withWords(1);
            x.put(pad);
            dueOf("'" + pad + "'", ARGUMENT, () -> x.word(0));
            due("signs behind it", x.count(0), pad.length());
            due("words behind it", x.count(2), 1);
        }
    }

    /** Promise 5: "IllegalStateException: it has twelve others": not if the word is one of the twelve. */
    static void thirteenthWord() {
        for (int words = 10; words <= 12; words++) {
            Search x = withWords(words);
            x.put("other");
            dueOf("behind " + words, words == 12 ? STATE : "" + (words + 1), () -> x.word(0));
            due("signs behind it", x.clear(), words == 12 ? 5 : 0);
        }
        Search x = withWords(12);
        for (int n = 0; n < 12; n++) {
            due("one of the twelve", x.word(0, nth(n)), 12);
            due("signs behind it", x.count(0), 0);
        }
        x.put("w");
        dueOf("a beginning of one of them", STATE, () -> x.word(0));
        due("words behind it", x.count(2), 12);
    }

    /** Promise 5, and Exceptions: no record, then no word, then twelve others. */
    static void orderOfWordsExceptions() {
        Search x = withWords(12);
        x.put("1");
        dueOf("no word, and twelve others", ARGUMENT, () -> x.word(0));
        dueOf("no word, and no record", NO_SUCH, () -> x.word(1));
        x.clear();
        dueOf("empty, and twelve others", ARGUMENT, () -> x.word(0));
        x.put(TEN + "k");
        dueOf("eleven letters, and twelve others", ARGUMENT, () -> x.word(0));
        x.clear();
        x.put("other");
        dueOf("twelve others, and no record", NO_SUCH, () -> x.word(1));
        dueOf("twelve others", STATE, () -> x.word(0));
    }

    // --- promise 6

    /** Promise 6: "A record's value of a facet (NONE: none): what it was": each behind each. */
    static void facetTellsWhatItWas() {
        Search x = Search.withRecords(1);
        int was = NONE;
        for (int value = NONE; value < 16; value++) {
            for (int facet = 3; facet >= 0; facet--) {
                due("value ahead of " + value, x.facet(0, facet, value), was);
            }
            was = value;
        }
        for (int value = 15; value >= NONE; value--) {
            due("value ahead of " + value, x.facet(0, 3, value), was);
            due("the same again", x.facet(0, 3, value), value);
            due("of facet 0 as before", x.facet(0, 0, 15), 15);
            was = value;
        }
    }

    /** Promise 6: "NoSuchElementException": record, facet, or a value that is not NONE. */
    static void facetOfNoRecordFacetOrValue() {
        Search x = Search.withRecords(2);
        x.facet(1, 3, 15);
        for (int record : outside(2)) {
            dueOf("record " + record, NO_SUCH, () -> x.facet(record, 0, 0));
            dueOf("record " + record + " and none", NO_SUCH, () -> x.facet(record, 3, NONE));
        }
        for (int facet : outside(4)) {
            dueOf("facet " + facet, NO_SUCH, () -> x.facet(1, facet, 0));
            dueOf("facet " + facet + " and none", NO_SUCH, () -> x.facet(1, facet, NONE));
        }
        for (int value : outsideButNone(16)) {
            dueOf("value " + value, NO_SUCH, () -> x.facet(1, 3, value));
        }
        due("as before", x.facet(1, 3, 0), 15);
    }

    // --- promise 7

    /** Promise 7: "A value's parent (NONE: none)": none where there is none, too. */
    static void parentNone() {
        Search x = Search.withRecords(1);
        x.facet(0, 2, 0);
        due("none where there is none", x.parent(2, 0, NONE), true);
        due("15", x.parent(2, 0, 15), true);
        due("under 15", x.ask(0, "2:15"), 1);
        due("none", x.parent(2, 0, NONE), true);
        due("no longer under 15", x.ask(0, "2:15"), 0);
        due("now 15 can be under it", x.parent(2, 15, 0), true);
    }

    /** Promise 7: "whether that can be; not, if the value would be under itself": rings of 1 to 16 values. */
    static void valueUnderItself() {
        for (int facet = 0; facet < 4; facet++) {
            for (int ring = 1; ring <= 16; ring++) {
                Search x = Search.withRecords(1);
                for (int value = 0; value < ring - 1; value++) {
                    due("a row", x.parent(facet, value, value + 1), true);
                }
                int top = ring - 1;
                due("a ring of " + ring, x.parent(facet, top, 0), false);
                for (int value = 0; value < ring; value++) {
                    due("top of " + ring + " under " + value, x.parent(facet, top, value), false);
                }
                due("in another facet", x.parent((facet + 1) % 4, top, ring % 16), top != ring % 16);
                x.facet(0, facet, 0);
                due("the row stays", x.ask(0, facet + ":" + top), 1);
                x.facet(0, facet, top);
                due("the top stays", x.ask(0, facet + ":0"), top == 0 ? 1 : 0);
            }
        }
    }

    /** Promise 7: "whether that can be": what could not be, can when the row is cut. */
    static void valueNoLongerUnderItself() {
        Search x = new Search();
        due("0 under 1", x.parent(0, 0, 1), true);
        due("1 under 2", x.parent(0, 1, 2), true);
        due("2 under 0", x.parent(0, 2, 0), false);
        due("the same again", x.parent(0, 1, 2), true);
        due("0 under 2 at once", x.parent(0, 0, 2), true);
        due("2 under 0", x.parent(0, 2, 0), false);
        due("2 under 1", x.parent(0, 2, 1), false);
        due("1 without parent", x.parent(0, 1, NONE), true);
        due("2 under 1", x.parent(0, 2, 1), true);
        due("1 under 0", x.parent(0, 1, 0), false);
    }

    /** Promise 7: "NoSuchElementException": facet, value, or a parent that is not NONE. */
    static void parentOfNoFacetOrValue() {
        Search x = Search.withRecords(1);
        x.facet(0, 3, 15);
        x.parent(3, 15, 0);
        for (int facet : outside(4)) {
            dueOf("facet " + facet, NO_SUCH, () -> x.parent(facet, 15, 1));
            dueOf("facet " + facet + ", itself", NO_SUCH, () -> x.parent(facet, 1, 1));
        }
        for (int value : outside(16)) {
            dueOf("value " + value, NO_SUCH, () -> x.parent(3, value, 1));
            dueOf("value " + value + ", none", NO_SUCH, () -> x.parent(3, value, NONE));
            dueOf("value " + value + ", itself", NO_SUCH, () -> x.parent(3, value, value));
        }
        for (int of : outsideButNone(16)) {
            dueOf("parent " + of, NO_SUCH, () -> x.parent(3, 15, of));
        }
        due("as before", x.ask(0, "3:0"), 1);
    }

    // --- promise 8

    /** Promise 8: "from is above to, or one is not 0 .. 9999": all pairs of years at the edges. */
    static void spansFromAndTo() {
        int[] years = {Integer.MIN_VALUE, -9999, -1, 0, 1, 4999, 5000, 5001, 9998, 9999, 10000, 65536, Integer.MAX_VALUE};
        for (int from : years) {
            for (int to : years) {
                Search x = Search.withRecords(1);
                x.span(0, 5000, 5000);
                boolean span = from >= 0 && from <= to && to <= 9999;
                dueOf(from + " to " + to, span ? "null" : ARGUMENT, () -> x.span(0, from, to));
                for (int year : new int[] {0, 1, 4999, 5000, 5001, 9998, 9999}) {
                    boolean within = span ? from <= year && year <= to : year == 5000;
                    due("year " + year + " behind " + from + " to " + to, x.ask(0, "@" + year + "-" + year), within ? 1 : 0);
                }
            }
        }
    }

    /** Promise 8: "NoSuchElementException; IllegalArgumentException", in this order. */
    static void spanOfNoRecord() {
        Search x = Search.withRecords(2);
        for (int record : outside(2)) {
            dueOf("record " + record, NO_SUCH, () -> x.span(record, 0, 9999));
            dueOf("record " + record + ", from above to", NO_SUCH, () -> x.span(record, 1, 0));
            dueOf("record " + record + ", no year", NO_SUCH, () -> x.span(record, -1, 10000));
        }
        due("no spans", x.ask(0, "@0-9999"), 0);
    }

    // --- promise 9

    /** Promise 9: "A role may see a record, or not: whether that was not so": each role of the first and last record. */
    static void rightTellsWhetherThatWasNotSo() {
        for (int record : new int[] {0, 31}) {
            for (int role = 0; role < 8; role++) {
                Search x = Search.withRecords(32);
                due("on at first", x.right(record, role, true), false);
                due("off", x.right(record, role, false), true);
                due("off again", x.right(record, role, false), false);
                for (int other = 0; other < 8; other++) {
                    due("seen by role " + other, x.ask(other), other == role ? 31 : 32);
                }
                due("on", x.right(record, role, true), true);
                due("on again", x.right(record, role, true), false);
                due("seen again", x.ask(role), 32);
            }
        }
    }

    /** Promise 9: a record that no role may see is still a record. */
    static void recordThatNoRoleMaySee() {
        Search x = Search.withRecords(2);
        x.words(1, "a");
        x.words(0, "a");
        for (int role = 0; role < 8; role++) {
            x.right(1, role, false);
        }
        for (int role = 0; role < 8; role++) {
            due("seen by role " + role, x.ask(role), 1);
            due("which is", x.hit(0, 0), 0);
        }
        due("records", x.count(1), 2);
        due("its word", x.wordOf(1, 0), "a");
        due("like it", x.like(1, 0), 0);
        due("it is like", x.like(0, 0), 1);
    }

    /** Promise 9: "NoSuchElementException": record or role. */
    static void rightOfNoRecordOrRole() {
        Search x = Search.withRecords(2);
        for (boolean on : new boolean[] {true, false}) {
            for (int record : outside(2)) {
                dueOf("record " + record, NO_SUCH, () -> x.right(record, 0, on));
            }
            for (int role : outside(8)) {
                dueOf("role " + role, NO_SUCH, () -> x.right(1, role, on));
            }
            dueOf("neither", NO_SUCH, () -> x.right(2, 8, on));
        }
        for (int role = 0; role < 8; role++) {
            due("seen by role " + role, x.ask(role), 2);
        }
    }

    // --- promise 10

    /** Promise 10: "how many hits": 0 to 32; "the pad is empty then". */
    static void askTellsHowManyHits() {
        Search x = Search.withRecords(32);
        for (int hits = 0; hits <= 32; hits++) {
            x.put(" a~ ");
            due("hits", x.ask(0), hits);
            due("signs behind it", x.count(0), 0);
            due("count", x.count(4), hits);
            if (hits < 32) {
                x.word(31 - hits, "a");
            }
        }
    }

    /** Promise 10: "NONE - the place of the sign at which it is no beginning of a question": 0 to 59. */
    static void placeOfTheSignAtFault() {
        for (int place = 0; place < 60; place++) {
            Questions.isNone(Questions.repeated(" ", place) + "?", place);
            Questions.isNone(Questions.repeated(" ", place) + "?" + Questions.repeated("a", 59 - place), place);
            Questions.isNone(Questions.repeated(" ", place) + "~" + Questions.repeated("?", 59 - place), place);
        }
        Questions.isNone("? ?", 0);
        Questions.isNone("a ? ?", 2);
        Questions.isNone("@1-x 0:99", 3);
    }

    /** Promise 10: "(its length at the end)": each beginning of each kind of term that is none yet. */
    static void lengthAtTheEnd() {
        for (String text : new String[] {"0", "3", "0:", "3:", "@", "@1", "@12", "@123", "@1234", "@1-", "@1234-"}) {
            Questions.isNone(text, text.length());
            Questions.isNone("a " + text, text.length() + 2);
            Questions.isNone("  " + text, text.length() + 2);
            Questions.isNone(Questions.repeated(" ", 60 - text.length()) + text, 60);
            Questions.isNone(Questions.repeated("a ", 7) + text, text.length() + 14);
            Questions.isNone(text + " ", text.length());
        }
    }

    /** Promise 10: "and the pad stays": it can be fed on until it is a question. */
    static void padStaysAndGoesOn() {
        Search x = Search.withRecords(1);
        x.facet(0, 0, 5);
        x.put("0");
        due("0", x.ask(0), -2);
        x.put(":");
        due("0:", x.ask(0), -3);
        x.put("5");
        due("0:5", x.ask(0), 1);
        due("its terms", x.count(5), 1);
        x.put("wor?");
        due("wor?", x.ask(0), -4);
        due("signs", x.clear(), 4);
    }

    /** Promise 10: "and what was told": also what read terms would have changed. */
    static void toldStaysBehindAFault() {
        Search x = Scenes.small("mint 2:7 @9999-9999 coins ?").make();
        String told = x.hits();
        due("hits ahead of it", told, "0 1");
        due("the fault", x.ask(7), NONE - 26);
        due("hits", x.hits(), told);
        due("terms", x.count(5), 2);
        due("scores", x.score(0, 0) + " " + x.score(0, 1) + " " + x.score(1, 0) + " " + x.score(1, 1), "6 1 4 3");
        due("counted", x.counted(0, 4) + " " + x.counted(0, 5) + " " + x.counted(2, 7), "2 1 0");
        dueOf("no third term", NO_SUCH, () -> x.score(0, 2));
    }

    /** Promise 10: "NoSuchElementException: role", ahead of whether the pad is a question. */
    static void askOfNoRole() {
        for (String pad : new String[] {"", "a", "?"}) {
            Search x = Search.withRecords(1);
            x.ask(0);
            x.put(pad);
            for (int role : outside(8)) {
                dueOf("role " + role, NO_SUCH, () -> x.ask(role));
            }
            due("signs behind it", x.count(0), pad.length());
            due("hits behind it", x.count(4), 1);
            for (int role : new int[] {0, 7}) {
                x.clear();
                x.put(pad);
                due("role " + role, x.ask(role), pad.isEmpty() ? 1 : pad.equals("a") ? 0 : -1);
            }
        }
    }

    // --- promise 11

    /** Promise 11: "Of the latest question": there is none at first, and a fault is none. */
    static void hitOfNoQuestion() {
        Search x = Search.withRecords(1);
        dueOf("record ahead of any question", NO_SUCH, () -> x.hit(0, 0));
        dueOf("score ahead of any question", NO_SUCH, () -> x.hit(0, 1));
        x.put("?");
        x.ask(0);
        dueOf("behind a fault", NO_SUCH, () -> x.hit(0, 0));
        due("a question", x.ask(0, ""), 1);
        due("its hit", x.hit(0, 0), 0);
        due("a question without hits", x.ask(0, "a"), 0);
        dueOf("record", NO_SUCH, () -> x.hit(0, 0));
        dueOf("score", NO_SUCH, () -> x.hit(0, 1));
    }

    /** Promise 11: "the k-th hit: 0 the record, 1 its score"; "there is none, or what is neither". */
    static void hitAtItsEdges() {
        for (int hits : new int[] {1, 2, 31, 32}) {
            Search x = Search.withRecords(32);
            for (int record = 32 - hits; record < 32; record++) {
                x.word(record, "a");
            }
            due("hits", x.ask(0, "a"), hits);
            due("the first", x.hit(0, 0), 32 - hits);
            due("the last", x.hit(hits - 1, 0), 31);
            due("the last one's score", x.hit(hits - 1, 1), 10);
            for (int k : outside(hits)) {
                dueOf("record of hit " + k, NO_SUCH, () -> x.hit(k, 0));
                dueOf("score of hit " + k, NO_SUCH, () -> x.hit(k, 1));
                dueOf("neither of hit " + k, NO_SUCH, () -> x.hit(k, 2));
            }
            for (int what : outside(2)) {
                dueOf("what " + what, NO_SUCH, () -> x.hit(0, what));
            }
        }
    }

    /** Promise 11: "Of the latest question": later changes and records do not show. */
    static void hitAsItWas() {
        Search x = Search.withRecords(3);
        x.words(1, "a");
        x.words(2, "a", "b");
        due("hits", x.ask(0, "a"), 2);
        x.right(1, 0, false);
        x.words(0, "a");
        x.record();
        x.words(3, "a");
        due("hits", x.hits(), "1 2");
        due("the latest question's", x.ask(0, "b~"), 3);
        due("hits", x.hits(), "2 0 3");
    }

    // --- promise 12

    /** Promise 12: "What term t of it scores for the k-th hit": each of 0 to 8 terms, and none behind. */
    static void scoreOfEachTerm() {
        for (int terms = 0; terms <= 8; terms++) {
            Search x = Search.withRecords(2);
            x.words(0, "ab");
            x.words(1, "a");
            due("hits", x.ask(0, Questions.repeated("a~ ", terms)), 2);
            for (int k = 0; k < 2; k++) {
                int hit = k;
                int record = x.hit(k, 0);
                for (int term = 0; term < terms; term++) {
                    due("term " + term + " of " + terms, x.score(k, term), record == 1 ? 6 : 4);
                }
                for (int term : new int[] {-1, terms, 8, 9, 64, Integer.MIN_VALUE, Integer.MAX_VALUE}) {
                    dueOf("term " + term + " of " + terms, NO_SUCH, () -> x.score(hit, term));
                }
            }
        }
    }

    /** Promise 12: "NoSuchElementException": no such hit. */
    static void scoreOfNoHit() {
        Search x = Search.withRecords(32);
        dueOf("ahead of any question", NO_SUCH, () -> x.score(0, 0));
        for (int record = 0; record < 32; record++) {
            x.facet(record, 0, 0);
        }
        due("hits", x.ask(0, "0:0"), 32);
        due("the last", x.score(31, 0), 3);
        for (int k : outside(32)) {
            dueOf("hit " + k, NO_SUCH, () -> x.score(k, 0));
        }
        due("no hits", x.ask(0, "0:1"), 0);
        dueOf("a term, and no hit", NO_SUCH, () -> x.score(0, 0));
    }

    /** Promise 12: "as it was": words, values, trees, spans and roles change behind it. */
    static void scoreAsItWas() {
        Search x = Search.withRecords(2);
        x.words(1, "ab");
        x.facet(1, 0, 1);
        x.parent(0, 1, 2);
        x.span(1, 5, 5);
        due("hits", x.ask(0, "a~ 0:1 0:2 @5-5"), 1);
        x.words(1, "a");
        x.facet(1, 0, 2);
        x.parent(0, 1, NONE);
        x.span(1, 6, 6);
        x.right(1, 0, false);
        int[] scores = {4, 3, 1, 2};
        for (int term = 0; term < 4; term++) {
            due("term " + term, x.score(0, term), scores[term]);
        }
        due("score", x.hit(0, 1), 10);
    }

    // --- promise 13

    /** Promise 13: "How many hits of it have a value of a facet": 0 to 32, of each facet's first and last value. */
    static void countedFromNoneToAll() {
        for (int facet = 0; facet < 4; facet++) {
            for (int value : new int[] {0, 15}) {
                for (int have : new int[] {0, 1, 31, 32}) {
                    Search x = Search.withRecords(32);
                    for (int record = 0; record < have; record++) {
                        x.facet(record, facet, value);
                    }
                    due("ahead of any question", x.counted(facet, value), 0);
                    due("hits", x.ask(0), 32);
                    due("value " + value, x.counted(facet, value), have);
                    due("another value", x.counted(facet, 15 - value), 0);
                    due("the same of another facet", x.counted((facet + 1) % 4, value), 0);
                }
            }
        }
    }

    /** Promise 13: "or one under it": a row of all sixteen values. */
    static void countedWithThoseUnderIt() {
        for (int facet = 0; facet < 4; facet++) {
            Search x = Search.withRecords(16);
            for (int value = 0; value < 16; value++) {
                x.facet(value, facet, value);
                x.parent(facet, value, value == 15 ? NONE : value + 1);
            }
            due("hits", x.ask(0), 16);
            for (int value = 0; value < 16; value++) {
                due("at or under " + value, x.counted(facet, value), value + 1);
            }
        }
    }

    /** Promise 13: "hits of it": not those that the role may not see, nor those for which a term does not hold. */
    static void countedAmongHitsOnly() {
        Search x = Search.withRecords(3);
        for (int record = 0; record < 3; record++) {
            x.facet(record, 1, 9);
        }
        x.words(0, "a");
        x.words(1, "a");
        x.right(1, 4, false);
        x.ask(4, "a");
        due("one hit", x.counted(1, 9), 1);
        x.ask(4, "b");
        due("no hit", x.counted(1, 9), 0);
        x.ask(4, "");
        due("all that the role may see", x.counted(1, 9), 2);
    }

    /** Promise 13: "as it was": values and trees change behind it. */
    static void countedAsItWas() {
        Search x = Search.withRecords(2);
        x.facet(0, 2, 3);
        x.parent(2, 3, 15);
        x.ask(0, "");
        x.facet(0, 2, 4);
        x.facet(1, 2, 3);
        x.parent(2, 3, 0);
        x.record();
        due("value 3", x.counted(2, 3), 1);
        due("value 4", x.counted(2, 4), 0);
        due("the parent that was", x.counted(2, 15), 1);
        due("the parent that is", x.counted(2, 0), 0);
        x.ask(0, "");
        due("asked again", x.counted(2, 3) + " " + x.counted(2, 4) + " " + x.counted(2, 15) + " " + x.counted(2, 0), "1 1 0 1");
    }

    /** Promise 13: "NoSuchElementException": facet or value; none is no value. */
    static void countedOfNoFacetOrValue() {
        Search x = Search.withRecords(1);
        x.facet(0, 3, 15);
        x.ask(0);
        for (int facet : outside(4)) {
            dueOf("facet " + facet, NO_SUCH, () -> x.counted(facet, 15));
        }
        for (int value : outside(16)) {
            dueOf("value " + value, NO_SUCH, () -> x.counted(3, value));
        }
        due("the last of the last", x.counted(3, 15), 1);
    }

    // --- promise 14

    /** Promise 14: "How far two records' nearest words are": among twelve of each, wherever they stand. */
    static void nearestOfTwelveWordsEach() {
        for (int place = 0; place < 12; place++) {
            Search x = Search.withRecords(2);
            for (int n = 0; n < 12; n++) {
                String start = "" + (char) ('a' + n);
                x.word(0, n == place ? start + "ggggg" : start + "qqqqqqqqq");
                x.word(1, n == 11 - place ? start + "ggggg" : start + "vv");
            }
            due("nearest at " + place, x.far(0, 1), 1);
            due("the other way round", x.far(1, 0), 1);
        }
    }

    /** Promise 14: the "nearest words": the same ones, behind and ahead of any that are nearly those. */
    static void sameWordAmongNearOnes() {
        for (int one = 0; one < 12; one++) {
            for (int other = 0; other < 12; other += 11) {
                Search x = Search.withRecords(2);
                for (int n = 0; n < 12; n++) {
                    x.word(0, (char) ('a' + n) + (n == one ? "same" : "some"));
                    x.word(1, n == other ? (char) ('a' + one) + "same" : (char) ('m' + n) + "some");
                }
                due("the same at " + one, x.far(0, 1), 0);
                due("the other way round", x.far(1, 0), 0);
            }
        }
    }

    /** Promise 14: 0 for a word in common, and ten at the most. */
    static void farFrom0To10() {
        for (int far = 0; far <= 10; far++) {
            Search x = Search.withRecords(2);
            x.word(0, TEN);
            x.word(1, Questions.repeated("z", far) + TEN.substring(far));
            due("far", x.far(0, 1), far);
            due("the other way round", x.far(1, 0), far);
            due("from itself", x.far(1, 1), 0);
        }
    }

    /** Promise 14: "NONE if one has none". */
    static void farFromARecordWithoutWords() {
        Search x = Search.withRecords(3);
        due("both without", x.far(0, 1), NONE);
        due("itself without", x.far(0, 0), NONE);
        x.word(2, "a");
        due("the second with one", x.far(0, 2), NONE);
        due("the first with one", x.far(2, 0), NONE);
        x.word(0, TEN);
        due("both with one", x.far(0, 2), 9);
    }

    /** Promise 14: "NoSuchElementException": either record, also beside one without words. */
    static void farFromNoRecord() {
        Search x = Search.withRecords(2);
        x.word(0, "a");
        for (int record : outside(2)) {
            dueOf("first " + record, NO_SUCH, () -> x.far(record, 0));
            dueOf("second " + record, NO_SUCH, () -> x.far(0, record));
            dueOf("second behind one without words " + record, NO_SUCH, () -> x.far(1, record));
            dueOf("first ahead of one without words " + record, NO_SUCH, () -> x.far(record, 1));
            dueOf("both " + record, NO_SUCH, () -> x.far(record, record));
        }
    }

    // --- promise 15

    /** Promise 15: "The k-th other record ... of equal ones by number": 31 others, and NONE behind. */
    static void likeAmong31Others() {
        for (int record : new int[] {0, 15, 31}) {
            Search x = Search.withRecords(32);
            for (int each = 0; each < 32; each++) {
                x.facet(each, 0, 7);
            }
            for (int k = 0; k < 31; k++) {
                due("like " + record + ", " + k, x.like(record, k), k < record ? k : k + 1);
            }
            for (int k : new int[] {31, 32, 33, 64, 1 << 30, Integer.MAX_VALUE}) {
                due("like " + record + ", " + k, x.like(record, k), NONE);
            }
        }
    }

    /** Promise 15: "by how many facts it shares with one, the most first". */
    static void likeTheMostFirst() {
        Search x = Search.withRecords(6);
        x.words(2, "a", "b", "c");
        x.facet(2, 0, 0);
        x.words(0, "a");
        x.words(1, "a", "b");
        x.words(3, "a", "b", "c");
        x.words(4, "b", "c");
        x.facet(5, 0, 0);
        due("in their order", x.like(2, 0) + " " + x.like(2, 1) + " " + x.like(2, 2) + " " + x.like(2, 3) + " " + x.like(2, 4), "3 1 4 0 5");
        x.facet(5, 0, NONE);
        due("one that shares none any more", x.like(2, 4), NONE);
        x.facet(0, 0, 0);
        x.words(0, "c");
        due("one that shares more", x.like(2, 0), 0);
    }

    /** Promise 15: "(those that share none are left out); NONE". */
    static void likeLeavesOutThoseThatShareNone() {
        Search x = Search.withRecords(1);
        x.words(0, "a");
        due("the only record", x.like(0, 0), NONE);
        x.record();
        due("one without facts", x.like(0, 0), NONE);
        x.words(1, "b", "aa");
        x.facet(1, 0, 1);
        due("one with others", x.like(0, 0), NONE);
        x.words(1, "a");
        due("one in common", x.like(0, 0), 1);
        due("and no more", x.like(0, 1), NONE);
    }

    /** Promise 15: "NoSuchElementException: record, or k is below 0". */
    static void likeOfNoRecordOrKBelow0() {
        Search x = Search.withRecords(2);
        x.words(0, "a");
        x.words(1, "a");
        for (int record : outside(2)) {
            dueOf("record " + record, NO_SUCH, () -> x.like(record, 0));
        }
        for (int k : new int[] {-1, -2, -32, Integer.MIN_VALUE, Integer.MIN_VALUE + 1}) {
            dueOf("k " + k, NO_SUCH, () -> x.like(0, k));
        }
        due("k 0", x.like(0, 0), 1);
        due("k 1", x.like(0, 1), NONE);
    }

    // --- promise 16

    /** Promise 16: "Sign i of a record's n-th word"; "i = -1: its length": words of one to ten letters. */
    static void signsOfWordsOfOneToTenLetters() {
        for (int length = 1; length <= 10; length++) {
            Search x = Search.withRecords(1);
            String word = "zyxwvutsra".substring(10 - length);
            int behind = length;
            x.word(0, word);
            due("length", x.letter(0, 0, -1), length);
            for (int i = 0; i < length; i++) {
                due("sign " + i, x.letter(0, 0, i), (int) word.charAt(i));
            }
            dueOf("sign behind the last", NO_SUCH, () -> x.letter(0, 0, behind));
            for (int i : new int[] {-2, -3, 10, 11, 64, Integer.MIN_VALUE, Integer.MAX_VALUE}) {
                dueOf("sign " + i, NO_SUCH, () -> x.letter(0, 0, i));
            }
        }
    }

    /** Promise 16: "in the order of words (a lesser letter where they differ first, or a beginning, ahead)". */
    static void wordsInTheirOrder() {
        String[] inOrder = {"a", "aa", "aaaaaaaaaa", "ab", "az", "b", "ba", "m", "y", "yz", "z", "zzzzzzzzzz"};
        for (int step : new int[] {1, 5, 7, 11}) {
            Search x = Search.withRecords(1);
            for (int n = 0; n < 12; n++) {
                x.word(0, inOrder[n * step % 12]);
                due("words", x.word(0, inOrder[n * step % 12]), n + 1);
            }
            for (int n = 0; n < 12; n++) {
                due("word " + n, x.wordOf(0, n), inOrder[n]);
            }
        }
        String[] atTheLast = {"abcdefghi", "abcdefghia", "abcdefghij", "abcdefghiz", "abcdefghj"};
        Search x = Search.withRecords(1);
        for (int n = 4; n >= 0; n--) {
            x.word(0, atTheLast[n]);
        }
        for (int n = 0; n < 5; n++) {
            due("word " + n, x.wordOf(0, n), atTheLast[n]);
        }
    }

    /** Promise 16: "NoSuchElementException": record, word or sign. */
    static void letterOfNoRecordOrWord() {
        for (int words = 0; words <= 12; words++) {
            Search x = withWords(words);
            x.record();
            int behind = words;
            if (words > 0) {
                due("length of the last", x.letter(0, words - 1, -1), 2);
            }
            for (int i : new int[] {-1, 0}) {
                dueOf("word behind the last", NO_SUCH, () -> x.letter(0, behind, i));
                for (int n : new int[] {-1, -12, 12, 13, 64, 1 << 29, 1 << 30, Integer.MIN_VALUE, Integer.MAX_VALUE}) {
                    dueOf("word " + n, NO_SUCH, () -> x.letter(0, n, i));
                }
                for (int record : outside(2)) {
                    dueOf("record " + record, NO_SUCH, () -> x.letter(record, 0, i));
                }
                dueOf("record without words", NO_SUCH, () -> x.letter(1, 0, i));
            }
        }
    }

    // --- promise 17

    /** Promise 17: "0 signs of the pad": 0 to 60. */
    static void countsSigns() {
        Search x = new Search();
        for (int signs = 0; signs <= 60; signs++) {
            due("signs", x.count(0), signs);
            if (signs < 60) {
                x.feed(0, 0, 0, 0, '?');
            }
        }
    }

    /** Promise 17: "1 records": 0 to 32. */
    static void countsRecords() {
        Search x = new Search();
        for (int records = 0; records <= 32; records++) {
            due("records", x.count(1), records);
            if (records < 32) {
                x.record();
            }
        }
    }

    /** Promise 17: "2 words of all records, 3 different words": the same in all, and others in each. */
    static void countsWords() {
        Search x = Search.withRecords(32);
        for (int record = 0; record < 32; record++) {
            due("words of all", x.count(2), 2 * record);
            due("different words", x.count(3), record == 0 ? 0 : record + 1);
            x.word(31 - record, "same");
            x.word(31 - record, "other" + (char) ('a' + record % 26) + (char) ('a' + record / 26));
            x.word(31 - record, "same");
        }
        due("words of all", x.count(2), 64);
        due("different words", x.count(3), 33);
        Search y = Search.withRecords(2);
        for (int n = 0; n < 12; n++) {
            y.word(0, nth(n));
            y.word(1, nth(n));
            due("words of all", y.count(2), 2 * n + 2);
            due("different words", y.count(3), n + 1);
        }
    }

    /** Promise 17: "4 hits of the latest question, 5 its terms": none at first; behind a fault as before. */
    static void countsHitsAndTerms() {
        Search x = Search.withRecords(32);
        due("hits ahead of any", x.count(4), 0);
        due("terms ahead of any", x.count(5), 0);
        for (int terms = 0; terms <= 8; terms++) {
            x.ask(0, Questions.repeated("@0-1 ", terms));
            due("hits", x.count(4), terms == 0 ? 32 : 0);
            due("terms", x.count(5), terms);
        }
        for (int record = 0; record < 32; record++) {
            x.span(record, 1, 1);
            x.ask(0, "@0-1");
            due("hits", x.count(4), record + 1);
        }
        x.ask(0, "@0-1 @0-1 @");
        due("hits behind a fault", x.count(4), 32);
        due("terms behind a fault", x.count(5), 1);
    }

    /** Promise 17: "IllegalArgumentException: none of these". */
    static void countOfNoneOfThese() {
        Search x = Search.withRecords(1);
        for (int what : outside(6)) {
            dueOf("what " + what, ARGUMENT, () -> x.count(what));
        }
        due("5", x.count(5), 0);
        due("0", x.count(0), 0);
    }
}
