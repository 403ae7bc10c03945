/**
 * The boundaries that the document names under "What it is", "The public face" and "Terms", a test
 * for each sentence: calls up to the boundary, at it, and behind it.
 */
public final class TermsBoundaryTest extends Checks {
    private static final String TEN = "abcdefghij";
    private static final String SIXTY_LETTERS = TEN + TEN + TEN + TEN + TEN + TEN;

    public static void main(String[] args) {
        runAll(TermsBoundaryTest.class);
    }

    // --- What it is, and the face

    /** What it is: "An object is used for at most 512 calls after it has been made". */
    static void all512CallsAreAnswered() {
        Search x = Search.withRecords(31);
        for (int record = 0; record < 20; record++) {
            for (char c = 'a'; c < 'a' + 12; c++) {
                x.word(record, "" + c + (char) ('a' + record));
            }
        }
        due("calls left", x.callsLeft(), 1);
        due("the 512th call, words of all records", x.count(2), 240);
        Search y = Search.withRecords(1);
        y.word(0, "coin");
        for (int i = 0; i < 253; i++) {
            y.feed('q', 0, 0, 0, 0);
            y.clear();
        }
        y.put("coin");
        due("the 511th call, a question", y.ask(0), 1);
        due("the 512th call, its score", y.hit(0, 1), 10);
        due("calls left", y.callsLeft(), 0);
    }

    /** The public face: "NONE = -1". */
    static void noneIsBelowZero() {
        due("NONE", FacetSearch.NONE, -1);
    }

    // --- the pad

    /** Terms, the pad: "THE PAD is a row of at most 60 SIGNS". */
    static void padOfSixtySigns() {
        Search x = new Search();
        for (int n = 1; n <= 60; n++) {
            due("sign " + n, x.feed(n % 5 == 0 ? 'a' : 0, n % 5 == 1 ? 'b' : 0, n % 5 == 2 ? 'c' : 0,
                    n % 5 == 3 ? 'd' : 0, n % 5 == 4 ? 'e' : 0), n);
        }
        dueOf("sign 61", STATE, () -> x.feed('a', 0, 0, 0, 0));
        due("signs behind it", x.count(0), 60);
        due("no sign more", x.feed(0, 0, 0, 0, 0), 60);
    }

    /** Terms, the pad: "at most 60 SIGNS (1 .. 127)": none of them goes in as the 61st, at any place. */
    static void noSignIsThe61st() {
        for (int shift = 0; shift < 32; shift += 8) {
            Search full = new Search();
            full.put(SIXTY_LETTERS);
            Search last = new Search();
            last.put(SIXTY_LETTERS.substring(1));
            for (int sign = 1; sign <= 127; sign++) {
                int four = sign << shift;
                dueOf("sign " + sign + " at bit " + shift, STATE, () -> full.feed(0, 0, 0, 0, four));
                dueOf("two of sign " + sign, STATE, () -> last.feed(four, 0, four, 0, 0));
            }
            due("signs behind them", full.count(0), 60);
            due("signs behind two at once", last.count(0), 59);
        }
    }

    /** Terms, the pad: "SIGNS (1 .. 127)". */
    static void signsFrom1To127() {
        for (int sign = 0; sign <= 255; sign++) {
            for (int shift = 0; shift < 32; shift += 8) {
                Search x = new Search();
                int four = sign << shift;
                String want = sign > 127 ? ARGUMENT : sign == 0 ? "0" : "1";
                dueOf("sign " + sign + " at bit " + shift, want, () -> x.feed(four, 0, 0, 0, 0));
                due("signs behind it", x.count(0), sign > 127 || sign == 0 ? 0 : 1);
            }
        }
    }

    /** Terms, the pad: "A .. Z are taken as a .. z" (64 and 91, 96 and 123 are no letters). */
    static void capitalsAreTakenAsSmallLetters() {
        for (int sign = 1; sign <= 127; sign++) {
            Search x = Search.withRecords(1);
            x.feed(sign, 0, 0, 0, 0);
            boolean capital = sign >= 65 && sign <= 90;
            boolean small = sign >= 97 && sign <= 122;
            dueOf("sign " + sign + " as a word", capital || small ? "1" : ARGUMENT, () -> x.word(0));
            if (capital || small) {
                due("sign " + sign, x.letter(0, 0, 0), capital ? sign + 32 : sign);
                due("sign " + sign + " as a question", x.ask(0, "" + (char) sign), 1);
                due("the other one of sign " + sign, x.ask(0, "" + (char) (sign ^ 32)), 1);
            }
        }
    }

    // --- records and words

    /** Terms, records: "RECORDS are 0 .. 31". */
    static void recordsFrom0To31() {
        for (int made = 0; made <= 32; made++) {
            Search x = Search.withRecords(made);
            for (int record : new int[] {0, made - 1, made, 31, 32, -1}) {
                boolean there = record >= 0 && record < made;
                dueOf("value of record " + record + " of " + made, there ? "-1" : NO_SUCH, () -> x.facet(record, 0, NONE));
            }
        }
        Search full = Search.withRecords(32);
        for (int record : outside(32)) {
            dueOf("record " + record, NO_SUCH, () -> full.facet(record, 0, NONE));
        }
    }

    /** Terms, words: "each with at most twelve WORDS". */
    static void twelveWordsOfARecord() {
        Search x = Search.withRecords(32);
        for (int record : new int[] {0, 31}) {
            for (int n = 1; n <= 12; n++) {
                due("word " + n, x.word(record, "w" + (char) ('a' + n)), n);
            }
            x.put("other");
            dueOf("word 13", STATE, () -> x.word(record));
            due("signs behind it", x.clear(), 5);
            due("the twelfth stays", x.wordOf(record, 11), "wm");
            dueOf("there is no thirteenth", NO_SUCH, () -> x.letter(record, 12, -1));
        }
        due("words of all records", x.count(2), 24);
        due("another record's first", x.word(1, "other"), 1);
    }

    /** Terms, words: "rows of 1 .. 10 letters". */
    static void wordsOfOneToTenLetters() {
        for (int length = 0; length <= 60; length++) {
            Search x = Search.withRecords(1);
            x.put(SIXTY_LETTERS.substring(0, length));
            boolean word = length >= 1 && length <= 10;
            dueOf(length + " letters", word ? "1" : ARGUMENT, () -> x.word(0));
            due("signs behind " + length + " letters", x.count(0), word ? 0 : length);
            due("words behind " + length + " letters", x.count(2), word ? 1 : 0);
            dueOf("length of " + length + " letters", word ? "" + length : NO_SUCH, () -> x.letter(0, 0, -1));
        }
    }

    /** Terms, words: "letters a .. z", at each of ten places; the signs next to them are none. */
    static void lettersFromAToZ() {
        for (int place = 0; place < 10; place++) {
            for (char sign : new char[] {1, ' ', '0', '@', '[', '`', 'a', 'z', '{', '~', 127}) {
                String text = TEN.substring(0, place) + sign + TEN.substring(place + 1);
                Search x = Search.withRecords(1);
                x.put(text);
                boolean letter = sign == 'a' || sign == 'z';
                dueOf("'" + text + "'", letter ? "1" : ARGUMENT, () -> x.word(0));
                if (letter) {
                    due("the word", x.wordOf(0, 0), text);
                }
            }
        }
    }

    /** Terms, words: "each once". */
    static void eachWordOnce() {
        Search x = Search.withRecords(2);
        due("a word", x.word(0, "coin"), 1);
        due("again", x.word(0, "coin"), 1);
        due("again in capitals", x.word(0, "COIN"), 1);
        due("a beginning of it", x.word(0, "coi"), 2);
        due("one that it begins", x.word(0, "coins"), 3);
        due("the beginning again", x.word(0, "coi"), 3);
        due("in another record", x.word(1, "coin"), 1);
        due("words of all records", x.count(2), 4);
        dueOf("no fourth word", NO_SUCH, () -> x.letter(0, 3, -1));
        due("its words", x.wordOf(0, 0) + " " + x.wordOf(0, 1) + " " + x.wordOf(0, 2), "coi coin coins");
    }

    // --- facets, spans, roles

    /** Terms, facets: "a VALUE 0 .. 15, or none, of each FACET 0 .. 3". */
    static void valuesFrom0To15OfFacetsFrom0To3() {
        for (int facet = -1; facet <= 4; facet++) {
            Search x = Search.withRecords(1);
            int was = NONE;
            int at = facet;
            for (int value = -2; value <= 16; value++) {
                int to = value;
                boolean there = facet >= 0 && facet <= 3 && value >= NONE && value <= 15;
                dueOf("value " + value + " of facet " + facet, there ? "" + was : NO_SUCH, () -> x.facet(0, at, to));
                was = there ? value : was;
            }
            dueOf("the last value of facet " + facet, facet >= 0 && facet <= 3 ? "15" : NO_SUCH, () -> x.facet(0, at, NONE));
        }
    }

    /** Terms, facets: a value "of each FACET": those of other facets and records are others. */
    static void eachFacetOfEachRecordHasItsOwnValue() {
        Search x = Search.withRecords(32);
        for (int record = 0; record < 32; record++) {
            for (int facet = 0; facet < 4; facet++) {
                due("none at first", x.facet(record, facet, (record * 5 + facet * 3) % 16), NONE);
            }
        }
        for (int record = 0; record < 32; record++) {
            for (int facet = 0; facet < 4; facet++) {
                due("value of facet " + facet + " of " + record, x.facet(record, facet, NONE), (record * 5 + facet * 3) % 16);
            }
        }
    }

    /** Terms, spans: "a SPAN of years, or none". */
    static void spanOfYearsOrNone() {
        Search x = Search.withRecords(2);
        due("no spans", x.ask(0, "@0-9999"), 0);
        x.span(1, 0, 0);
        due("a span of the first year", x.ask(0, "@0-9999"), 1);
        due("its record", x.hit(0, 0), 1);
        x.span(1, 9999, 9999);
        due("one span only, the latest", x.ask(0, "@0-9998"), 0);
        due("a span of the last year", x.ask(0, "@9999-9999"), 1);
        x.span(0, 0, 9999);
        due("a span of all years", x.ask(0, "@5000-5000"), 1);
        due("its record", x.hit(0, 0), 0);
    }

    /** Terms, roles: "the ROLES 0 .. 7 that may see it (all at first)". */
    static void rolesFrom0To7SeeItAtFirst() {
        Search x = Search.withRecords(32);
        for (int role = 0; role <= 7; role++) {
            due("seen by role " + role, x.ask(role), 32);
            due("is so already for role " + role, x.right(31, role, true), false);
        }
        for (int role : outside(8)) {
            dueOf("question of role " + role, NO_SUCH, () -> x.ask(role));
            dueOf("right of role " + role, NO_SUCH, () -> x.right(0, role, true));
        }
        for (int role = 0; role <= 7; role++) {
            x.right(role, role, false);
        }
        for (int role = 0; role <= 7; role++) {
            due("all but one seen by role " + role, x.ask(role), 31);
            due("the one that it may not see is left out", x.hits().startsWith(role == 0 ? "1 2 " : "0 "), true);
            due("at its place is the next one", x.hit(role, 0), role + 1);
        }
    }

    // --- trees

    /** Terms, trees: "a value may have another one as its PARENT": not itself, and one only. */
    static void anotherValueAsParent() {
        for (int facet = 0; facet < 4; facet++) {
            for (int value = 0; value < 16; value++) {
                Search x = Search.withRecords(1);
                int other = (value + 1) % 16;
                int third = (value + 7) % 16;
                x.facet(0, facet, value);
                due("itself", x.parent(facet, value, value), false);
                due("another one", x.parent(facet, value, other), true);
                due("under it", x.ask(0, facet + ":" + other), 1);
                due("a third one in its place", x.parent(facet, value, third), true);
                due("no longer under it", x.ask(0, facet + ":" + other), 0);
                due("under the third one", x.ask(0, facet + ":" + third), 1);
            }
        }
    }

    /** Terms, trees: "a value is UNDER its parent, that one's, and so on": all sixteen in a row. */
    static void underTheParentThatOnesAndSoOn() {
        for (int facet = 0; facet < 4; facet++) {
            for (int has = 0; has < 16; has += 5) {
                Search x = Search.withRecords(1);
                for (int value = 0; value < 15; value++) {
                    due("parent of " + value, x.parent(facet, value, value + 1), true);
                }
                x.facet(0, facet, has);
                for (int value = 0; value < 16; value++) {
                    due(has + " at or under " + value, x.ask(0, facet + ":" + value), value >= has ? 1 : 0);
                    if (value >= has) {
                        due("its score", x.hit(0, 1), value == has ? 3 : 1);
                    }
                }
                due("counted at the top", x.counted(facet, 15), 1);
            }
        }
    }

    // --- how far words are

    /** Terms, far: "TWO WORDS are as FAR as the least number of changes of one letter ...". */
    static void changesOfOneLetter() {
        for (int length = 1; length <= 10; length++) {
            for (int changes = 0; changes <= length; changes++) {
                String other = Questions.repeated("z", changes) + TEN.substring(changes, length);
                apart(TEN.substring(0, length), other, changes);
            }
        }
    }

    /** Terms, far: "... letters left out or put in, that make one of the other", up to nine. */
    static void lettersLeftOutOrPutIn() {
        for (int length = 1; length <= 10; length++) {
            apart(TEN, TEN.substring(0, length), 10 - length);
            apart(TEN, TEN.substring(10 - length), 10 - length);
        }
        apart("ace", "abcde", 2);
        apart("bd", "abcde", 3);
    }

    /** Terms, far: "the least number": changes, letters left out and put in together. */
    static void theLeastNumberOfChanges() {
        apart("ab", "ba", 2);
        apart(TEN, "bcdefghijk", 2);
        apart("kitten", "sitting", 3);
        apart("sunday", "saturday", 3);
        apart(TEN, "klmnopqrst", 10);
        apart("z", TEN, 10);
        apart("aaaaaaaaaa", "a", 9);
        apart("abababab", "babababa", 2);
    }

    private static void apart(String one, String other, int far) {
        Search x = Search.withRecords(2);
        x.word(0, one);
        x.word(1, other);
        due(one + " from " + other, x.far(0, 1), far);
        due(other + " from " + one, x.far(1, 0), far);
    }

    // --- questions

    /** Terms, a question: "TERMS with one space (32) or more between them": 0, 1, and up to 58. */
    static void spacesBetweenTerms() {
        for (int spaces = 1; spaces <= 58; spaces++) {
            Questions.isOne("a" + Questions.repeated(" ", spaces) + "b", 2);
        }
        Questions.isOne("ab", 1);
        String[] touching = {"a0:1", "a@1-2", "a~b", "a~0:1", "a~@1-2", "0:1a", "0:1@1-2", "0:010:1", "@1-2a", "@1-2@1-2", "@1-20:1"};
        int[] places = {1, 1, 2, 2, 2, 3, 3, 4, 4, 4, 5};
        for (int i = 0; i < touching.length; i++) {
            Questions.isNone(touching[i], places[i]);
        }
    }

    /** Terms, a question: "one space (32)": no other sign stands between terms. */
    static void onlySign32IsASpace() {
        for (int sign = 1; sign <= 127; sign++) {
            String text = "a" + (char) sign + "b";
            if (sign == 32) {
                Questions.isOne(text, 2);
            } else if (Character.isLetter(sign)) {
                Questions.isOne(text, 1);
            } else {
                Questions.isNone(text, sign == 126 ? 2 : 1);
            }
        }
    }

    /** Terms, a question: spaces "also ahead and behind". */
    static void spacesAheadAndBehind() {
        for (int ahead = 0; ahead <= 59; ahead++) {
            Questions.isOne(Questions.repeated(" ", ahead) + "a", 1);
            Questions.isOne("a" + Questions.repeated(" ", ahead), 1);
            Questions.isOne(Questions.repeated(" ", ahead) + "a" + Questions.repeated(" ", 59 - ahead), 1);
        }
        for (String term : new String[] {"a~", "0:1", "0:15", "@1-2", "@1234-5678"}) {
            Questions.isOne("  " + term, 1);
            Questions.isOne(term + "  ", 1);
            Questions.isOne(" " + term + " " + term + " ", 2);
        }
    }

    /** Terms, a question: "each one of" four kinds, told by their first signs. */
    static void firstSignsOfTerms() {
        for (int sign = 1; sign <= 127; sign++) {
            String text = "" + (char) sign;
            if (Character.isLetter(sign)) {
                Questions.isOne(text, 1);
            } else if (sign == 32) {
                Questions.isOne(text, 0);
            } else {
                Questions.isNone(text, sign >= '0' && sign <= '3' || sign == 64 ? 1 : 0);
            }
        }
    }

    /** Terms, a word: "letters (1 .. 10)". */
    static void termOfOneToTenLetters() {
        for (int length = 1; length <= 60; length++) {
            String text = SIXTY_LETTERS.substring(0, length);
            if (length <= 10) {
                Questions.isOne(text, 1);
            } else {
                Questions.isNone(text, 10);
            }
        }
        Questions.isNone("ab  " + TEN + "k", 14);
    }

    /** Terms, a word: "the record has this word; it scores 10": no beginning, no longer one. */
    static void wordThatTheRecordHas() {
        for (int length = 1; length <= 10; length++) {
            Search x = Search.withRecords(1);
            x.word(0, TEN.substring(0, length));
            for (int asked = 1; asked <= 10; asked++) {
                due(asked + " letters of " + length, x.ask(0, TEN.substring(0, asked)), asked == length ? 1 : 0);
                if (asked == length) {
                    due("its score", x.hit(0, 1), 10);
                }
            }
        }
        Search twelve = Search.withRecords(1);
        for (int n = 0; n < 12; n++) {
            twelve.word(0, "w" + (char) ('a' + n));
        }
        for (int n = 0; n < 13; n++) {
            due("word " + n + " of twelve", twelve.ask(0, "w" + (char) ('a' + n)), n < 12 ? 1 : 0);
        }
    }

    /** Terms, a near word: "letters (1 .. 10), then 126". */
    static void nearWordOfOneToTenLetters() {
        for (int length = 1; length <= 10; length++) {
            Questions.isOne(TEN.substring(0, length) + "~", 1);
            Questions.isNone(TEN.substring(0, length) + "~~", length + 1);
            Questions.isNone(TEN.substring(0, length) + "}", length);
            Questions.isNone(TEN.substring(0, length) + "\u007f", length);
        }
        Questions.isNone("~", 0);
        Questions.isNone("a ~", 2);
        Questions.isNone(TEN + "k~", 10);
    }

    /** Terms, a near word: "at most two far from it; it scores 6 less twice how far". */
    static void nearWordAtMostTwoFar() {
        String[][] words = {{"goldmint"}, {"goldminx", "oldmint", "goldmints"}, {"goldmixx", "ldmint", "goldmintst",
            "oldmints", "ogldmint"}, {"goldmxxx", "dmint", "goldm", "xgoldmxt", "oldmixx", "gol"}};
        int[] scores = {6, 4, 2, 0};
        for (int far = 0; far < words.length; far++) {
            for (String word : words[far]) {
                nearScores("goldmint", word, scores[far]);
                nearScores(word, "goldmint", scores[far]);
            }
        }
        nearScores("a", "b", 4);
        nearScores("a", "bc", 2);
        nearScores("a", "bcd", 0);
        nearScores("a", "abc", 2);
        nearScores("a", "abcd", 0);
        nearScores(TEN, "bcdefghijk", 2);
        nearScores(TEN, "cdefghijkl", 0);
    }

    private static void nearScores(String asked, String has, int score) {
        Search x = Search.withRecords(1);
        x.word(0, has);
        due(asked + "~ of " + has, x.ask(0, asked + "~"), score == 0 ? 0 : 1);
        dueOf("score of " + asked + "~ for " + has, score == 0 ? NO_SUCH : "" + score, () -> x.score(0, 0));
    }

    /** Terms, a near word: "how far the nearest is": of all twelve, wherever it stands. */
    static void nearestOfAllWords() {
        for (int place = 0; place < 12; place++) {
            Search x = Search.withRecords(1);
            for (int n = 0; n < 12; n++) {
                x.word(0, n == place ? "ogld" : (char) ('a' + n) + "zzzzzz");
            }
            due("two far at place " + place, x.ask(0, "gold~"), 1);
            due("its score", x.hit(0, 1), 2);
        }
        Search x = Search.withRecords(2);
        due("no words", x.ask(0, "a~"), 0);
        x.words(0, "golxx", "gold", "goldx");
        due("the same among near ones", x.ask(0, "gold~"), 1);
        due("its score", x.hit(0, 1), 6);
    }

    /** Terms, a value: "a digit 0 .. 3, then 58". */
    static void facetDigitsFrom0To3() {
        for (char digit = '0'; digit <= '9'; digit++) {
            if (digit <= '3') {
                Questions.isOne(digit + ":1", 1);
                Questions.isNone(digit + "", 1);
                Questions.isNone(digit + "9", 1);
                Questions.isNone(digit + ";1", 1);
                Questions.isNone(digit + " :1", 1);
                Questions.isNone(digit + "" + digit + ":1", 1);
            } else {
                Questions.isNone(digit + ":1", 0);
            }
        }
        Questions.isNone("/:1", 0);
        Questions.isNone(":1", 0);
        Questions.isNone("a:1", 1);
    }

    /** Terms, a value: "a number 0 .. 15 of one or two digits". */
    static void valueNumbersFrom0To15() {
        for (int number = 0; number <= 99; number++) {
            String two = (number < 10 ? "0" : "") + number;
            if (number <= 15) {
                Questions.isOne("3:" + number, 1);
                Questions.isOne("3:" + two, 1);
                Questions.isNone("3:" + two + "0", 4);
                Questions.isNone("3:0" + two, 4);
            } else {
                Questions.isNone("3:" + number, 3);
            }
        }
        Questions.isNone("3:", 2);
        Questions.isNone("3: 1", 2);
        Questions.isNone("3:a", 2);
        Questions.isNone("3:/", 2);
        Questions.isNone("3::", 2);
        Questions.isNone("3:-1", 2);
        Questions.isNone("3:1/", 3);
        Questions.isNone("3:1:", 3);
        Questions.isNone("3:1~", 3);
    }

    /** Terms, a value: "its value of that facet is this one (scores 3)": none is not 0. */
    static void valueIsThisOne() {
        for (int facet = 0; facet < 4; facet++) {
            for (int has = NONE; has < 16; has++) {
                Search x = Search.withRecords(1);
                x.facet(0, facet, has);
                for (int asked = 0; asked < 16; asked++) {
                    due(facet + ":" + asked + " of " + has, x.ask(0, facet + ":" + asked), has == asked ? 1 : 0);
                    if (has == asked) {
                        due("its score", x.hit(0, 1), 3);
                        due("two digits", x.ask(0, facet + ":" + (asked < 10 ? "0" : "") + asked), 1);
                    }
                }
                due("of another facet", x.ask(0, (facet + 1) % 4 + ":" + Math.max(has, 0)), 0);
            }
        }
    }

    /** Terms, a value: "or under it (1)": not above it, nor beside it, nor in another facet. */
    static void valueIsUnderIt() {
        Search x = Search.withRecords(4);
        x.parent(1, 0, 7);
        x.parent(1, 15, 7);
        x.parent(1, 7, 8);
        x.facet(0, 1, 0);
        x.facet(1, 1, 7);
        x.facet(2, 1, 15);
        x.facet(3, 2, 0);
        due("at or under 8", x.ask(0, "1:8"), 3);
        due("all under it", x.hit(0, 1) + x.hit(1, 1) + x.hit(2, 1), 3);
        due("at or under 7", x.ask(0, "1:7"), 3);
        due("7 first", x.hits(), "1 0 2");
        due("scores", x.hit(0, 1) + " " + x.hit(1, 1) + " " + x.hit(2, 1), "3 1 1");
        due("at or under 0", x.ask(0, "1:0"), 1);
        due("at or under 15", x.ask(0, "1:15"), 1);
        due("at or under 7 in another facet", x.ask(0, "2:7"), 0);
        due("0 of another facet", x.ask(0, "2:0"), 1);
    }

    /** Terms, years: "64, then a number, 45, a number (each of 1 .. 4 digits)". */
    static void yearsOfOneToFourDigits() {
        for (int first = 0; first <= 5; first++) {
            for (int second = 0; second <= 5; second++) {
                String text = "@" + "98765".substring(0, first) + "-" + "00000".substring(0, second);
                if (first == 0) {
                    Questions.isNone(text, 1);
                } else if (first == 5) {
                    Questions.isNone(text, 5);
                } else if (second == 0) {
                    Questions.isNone(text, first + 2);
                } else if (second == 5) {
                    Questions.isNone(text, first + 6);
                } else {
                    Questions.isOne(text, 1);
                }
            }
            Questions.isNone("@" + "98765".substring(0, first), first == 5 ? 5 : first + 1);
        }
    }

    /** Terms, years: "64", "45" and digits, and no other sign in their places. */
    static void signsOfYears() {
        for (String other : new String[] {",", ".", " ", "+", "_", "a", "/", ":", "~", "@"}) {
            Questions.isNone("@1" + other + "2", 2);
            Questions.isNone("@" + other + "1-2", 1);
            Questions.isNone("@1-" + other + "2", 3);
            if (!other.equals(" ")) {
                Questions.isNone("@1-2" + other, 4);
            }
        }
        Questions.isNone("?1-2", 0);
        Questions.isNone("1-2", 1);
        Questions.isNone("@1--2", 3);
        Questions.isNone("@-1-2", 1);
    }

    /** Terms, years: "its span has a year in common with those from the first to the second number". */
    static void yearInCommon() {
        Search x = Search.withRecords(2);
        x.span(0, 100, 200);
        int[] years = {0, 99, 100, 101, 150, 199, 200, 201, 9999};
        for (int first : years) {
            for (int second : years) {
                boolean common = first <= second && second >= 100 && first <= 200;
                due("@" + first + "-" + second, x.ask(0, "@" + first + "-" + second), common ? 1 : 0);
            }
        }
        x.span(0, 0, 0);
        due("year 0", x.ask(0, "@0-0"), 1);
        due("from 1 on", x.ask(0, "@1-9999"), 0);
        x.span(0, 9999, 9999);
        due("year 9999", x.ask(0, "@9999-9999"), 1);
        due("up to 9998", x.ask(0, "@0-9998"), 0);
        due("no leading zeros needed", x.ask(0, "@0000-9999"), 1);
        x.span(0, 7, 7);
        due("leading zeros", x.ask(0, "@007-0007"), 1);
        due("it scores 2", x.hit(0, 1), 2);
        due("a number is its digits' value", x.ask(0, "@0070-0700"), 0);
    }

    /** Terms, years: "(none, if the second is less)". */
    static void noYearIfTheSecondIsLess() {
        Search x = Search.withRecords(1);
        x.span(0, 0, 9999);
        for (int year = 1; year <= 9999; year += 833) {
            due("second one less", x.ask(0, "@" + year + "-" + (year - 1)), 0);
            due("the term is one", x.count(5), 1);
            due("equal", x.ask(0, "@" + year + "-" + year), 1);
            due("one more", x.ask(0, "@" + (year - 1) + "-" + year), 1);
        }
        due("9999 to 0", x.ask(0, "@9999-0"), 0);
        due("0 to 9999", x.ask(0, "@0-9999"), 1);
    }

    /** Terms, a question: "At most eight terms". */
    static void eightTerms() {
        for (String term : new String[] {"a", "a~", "0:1", "@1-2"}) {
            for (int terms = 0; terms <= 10; terms++) {
                String text = Questions.repeated(term + " ", terms);
                if (terms <= 8) {
                    Questions.isOne(text, terms);
                    Questions.isOne("  " + text + " ", terms);
                } else {
                    Questions.isNone(text, 8 * (term.length() + 1));
                    Questions.isNone("  " + text.trim(), 8 * (term.length() + 1) + 2);
                }
            }
        }
        String eight = "a a a a a a a a";
        Questions.isOne(eight + Questions.repeated(" ", 45), 8);
        Questions.isNone(eight + Questions.repeated(" ", 44) + "a", 59);
        Questions.isNone(eight + " @", 16);
        Questions.isNone(eight + " 0", 16);
        Questions.isNone(eight + " ?", 16);
    }

    /** Terms, a question: "none at all is a question, too (all that the role may see are hits, with score 0)". */
    static void noTermsAtAll() {
        for (int spaces = 0; spaces <= 60; spaces++) {
            Questions.isOne(Questions.repeated(" ", spaces), 0);
        }
        for (int records = 0; records <= 32; records++) {
            Search x = Search.withRecords(records);
            int behind = records;
            due("of " + records, x.ask(7), records);
            for (int k = 0; k < records; k++) {
                due("hit " + k, x.hit(k, 0), k);
                due("score of hit " + k, x.hit(k, 1), 0);
            }
            dueOf("hit " + records, NO_SUCH, () -> x.hit(behind, 0));
            for (int record = 0; record < records; record++) {
                x.right(record, 7, false);
            }
            due("that the role may see of " + records, x.ask(7), 0);
            due("that another role may see of " + records, x.ask(6), records);
        }
    }

    /** Terms, a hit: "a record that the role may see and for which all terms hold": each of eight. */
    static void hitIfAllTermsHold() {
        for (int place = 0; place < 8; place++) {
            for (String fails : new String[] {"b", "xyz~", "0:2", "@6-7"}) {
                String[] terms = {"a", "a~", "0:1", "@5-5", "@1-9", "0:1", "a~", "a"};
                Search x = Search.withRecords(2);
                x.word(1, "a");
                x.facet(1, 0, 1);
                x.span(1, 5, 5);
                due("all hold", x.ask(0, String.join(" ", terms)), 1);
                due("the hit", x.hit(0, 0), 1);
                terms[place] = fails;
                due("term " + place + " does not hold", x.ask(0, String.join(" ", terms)), 0);
                due("its terms", x.count(5), 8);
                terms[place] = "a";
                x.right(1, 3, false);
                due("all hold, but the role may not see it", x.ask(3, String.join(" ", terms)), 0);
            }
        }
    }

    /** Terms, a hit: "its SCORE is the sum of their scores": of up to eight, of each kind. */
    static void scoreIsTheSum() {
        Search x = Search.withRecords(1);
        x.words(0, "a", "b");
        x.facet(0, 0, 1);
        x.parent(0, 1, 2);
        x.span(0, 5, 5);
        String[] terms = {"a", "a~", "ac~", "acd~", "0:1", "0:2", "@5-5", "b"};
        int[] scores = {10, 6, 4, 2, 3, 1, 2, 10};
        String text = "";
        int sum = 0;
        for (int n = 0; n < 8; n++) {
            text += terms[n] + " ";
            sum += scores[n];
            due(text, x.ask(0, text), 1);
            due("score of " + text, x.hit(0, 1), sum);
            due("score of its last term", x.score(0, n), scores[n]);
        }
        x.ask(0, "a a a a a a a a");
        due("the greatest score", x.hit(0, 1), 80);
        x.ask(0, "0:2");
        due("the least score of a term", x.hit(0, 1), 1);
    }

    /** Terms, a hit: "Hits are told by score, the greatest first, of equal ones by their numbers". */
    static void hitsByScoreThenByNumber() {
        Search x = Search.withRecords(32);
        StringBuilder six = new StringBuilder();
        StringBuilder four = new StringBuilder();
        StringBuilder two = new StringBuilder();
        for (int record = 0; record < 32; record++) {
            int kind = record * 7 % 3;
            x.word(record, kind == 0 ? "gold" : kind == 1 ? "golds" : "goldss");
            (kind == 0 ? six : kind == 1 ? four : two).append(record).append(' ');
        }
        due("all", x.ask(0, "gold~"), 32);
        due("in their order", x.hits() + " ", six.toString() + four + two);
        due("the other way round", x.ask(0, "goldss~"), 32);
        due("in their order", x.hits() + " ", two.toString() + four + six);
        due("equal ones", x.ask(0, "golds~"), 32);
        due("in their order", x.hits() + " ", four + merged(six, two));
    }

    private static String merged(CharSequence one, CharSequence other) {
        java.util.TreeSet<Integer> numbers = new java.util.TreeSet<>();
        for (String number : (one + "" + other).trim().split(" ")) {
            numbers.add(Integer.valueOf(number));
        }
        StringBuilder all = new StringBuilder();
        for (int number : numbers) {
            all.append(number).append(' ');
        }
        return all.toString();
    }

    // --- shared facts

    /** Terms, shared facts: "as many facts as they have words in common": from none to twelve. */
    static void wordsInCommon() {
        Search x = Search.withRecords(14);
        for (int n = 0; n < 12; n++) {
            x.word(0, "w" + (char) ('a' + n));
        }
        for (int record = 1; record <= 13; record++) {
            for (int n = 0; n < record - 1; n++) {
                x.word(record, "w" + (char) ('a' + n));
            }
            x.word(record < 13 ? record : 1, "q" + (char) ('a' + record));
        }
        for (int k = 0; k < 12; k++) {
            due("the " + k + "-th", x.like(0, k), 13 - k);
        }
        due("the one that shares none", x.like(0, 12), NONE);
    }

    /** Terms, shared facts: "and facets with the same value (not none)": from none to four. */
    static void facetsWithTheSameValue() {
        Search x = Search.withRecords(6);
        for (int facet = 0; facet < 4; facet++) {
            x.facet(0, facet, facet == 0 ? 0 : 15);
            for (int record = 1; record <= 5; record++) {
                x.facet(record, facet, facet >= record - 1 ? NONE : facet == 0 ? 0 : 15);
            }
        }
        due("in their order", x.like(0, 0) + " " + x.like(0, 1) + " " + x.like(0, 2) + " " + x.like(0, 3), "5 4 3 2");
        due("none and a value are not the same", x.like(0, 4), NONE);
        for (int facet = 0; facet < 4; facet++) {
            x.facet(0, facet, NONE);
        }
        due("none and none are not the same", x.like(0, 0), NONE);
        x.facet(0, 0, 15);
        due("a value of another facet is not the same", x.like(0, 0), NONE);
        x.parent(0, 0, 15);
        due("a value under it is not the same", x.like(0, 0), NONE);
    }

    /** Terms, shared facts: both kinds together, up to sixteen facts. */
    static void sixteenSharedFacts() {
        Search x = Search.withRecords(4);
        for (int record = 0; record < 4; record++) {
            for (int n = 0; n < (record == 1 ? 11 : 12); n++) {
                x.word(record, "w" + (char) ('a' + n));
            }
            for (int facet = 0; facet < (record == 2 ? 2 : 4); facet++) {
                x.facet(record, facet, 15 - facet);
            }
        }
        due("sixteen facts", x.like(0, 0), 3);
        due("fifteen facts", x.like(0, 1), 1);
        due("fourteen facts", x.like(0, 2), 2);
        due("no more", x.like(0, 3), NONE);
    }

    // --- exceptions

    /** Exceptions: "there is no such record, facet, value, role, hit, term, sign": the last one of each, and the next. */
    static void noSuchElement() {
        Search x = Search.withRecords(2);
        x.word(1, "coin");
        due("hits", x.ask(0, "coin"), 1);
        due("record 1", x.far(1, 1), 0);
        dueOf("record 2", NO_SUCH, () -> x.far(1, 2));
        due("facet 3", x.counted(3, 0), 0);
        dueOf("facet 4", NO_SUCH, () -> x.counted(4, 0));
        due("value 15", x.counted(0, 15), 0);
        dueOf("value 16", NO_SUCH, () -> x.counted(0, 16));
        due("role 7", x.right(0, 7, true), false);
        dueOf("role 8", NO_SUCH, () -> x.right(0, 8, true));
        due("hit 0", x.hit(0, 0), 1);
        dueOf("hit 1", NO_SUCH, () -> x.hit(1, 0));
        due("term 0", x.score(0, 0), 10);
        dueOf("term 1", NO_SUCH, () -> x.score(0, 1));
        due("sign 3", x.letter(1, 0, 3), (int) 'n');
        dueOf("sign 4", NO_SUCH, () -> x.letter(1, 0, 4));
    }

    /** Exceptions: NoSuchElementException, "IllegalArgumentException, then IllegalStateException, as told". */
    static void orderOfExceptions() {
        Search x = Search.withRecords(1);
        for (int n = 0; n < 12; n++) {
            x.word(0, "w" + (char) ('a' + n));
        }
        x.put(SIXTY_LETTERS);
        dueOf("span of no record and no years", NO_SUCH, () -> x.span(1, 1, 0));
        dueOf("span of no years", ARGUMENT, () -> x.span(0, 1, 0));
        dueOf("feed of a sign above 127 and of too many", ARGUMENT, () -> x.feed('a', 0, 0, 0, 128));
        dueOf("feed of too many", STATE, () -> x.feed('a', 0, 0, 0, 127));
        dueOf("word of no record that is none and one too many", NO_SUCH, () -> x.word(1));
        dueOf("word that is none and one too many", ARGUMENT, () -> x.word(0));
        x.clear();
        x.put("other");
        dueOf("word that is one too many", STATE, () -> x.word(0));
    }
}
