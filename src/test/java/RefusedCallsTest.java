/**
 * Exceptions: "Such a call changes nothing". For each sentence that refuses a call: the kind of
 * exception, and that the answers which show the state are the same behind the call as ahead of it
 * (see Refusals). Two answers without an exception are refusals, too: a question with a fault, and
 * a parent that cannot be.
 */
public final class RefusedCallsTest extends Checks {
    private static final int[] SMALL_RECORDS = outside(4);

    public static void main(String[] args) {
        runAll(RefusedCallsTest.class);
    }

    private static void inBothScenes(String what, String answer, Refusals.Trial refused) {
        Refusals.changesNothing(what + " (small)", Scenes.small("coin"), answer, refused);
        Refusals.changesNothing(what + " (full)", Scenes.full("al"), answer, refused);
    }

    private static void inSmallScene(String what, String answer, Refusals.Trial refused) {
        Refusals.changesNothing(what, Scenes.small("coin"), answer, refused);
    }

    /** The scenes themselves are what the other tests take them for. */
    static void scenes() {
        Search small = Scenes.small("coin").make();
        due("small: counts", small.count(0) + " " + small.count(1) + " " + small.count(2) + " " + small.count(4) + " " + small.count(5), "4 4 5 2 2");
        Search full = Scenes.full("al").make();
        due("full: counts", full.count(0) + " " + full.count(1) + " " + full.count(2) + " " + full.count(4) + " " + full.count(5), "2 32 24 2 8");
        Search pad = Scenes.fullPad().make();
        due("full pad: signs", pad.count(0), 60);
        due("full pad: as a question", pad.ask(0), 1);
        due("full pad: its terms", pad.count(5), 8);
    }

    /** Promise 2: "IllegalArgumentException: a sign is above 127": at each place, with signs ahead and behind. */
    static void feedASignAbove127() {
        for (int position = 0; position < 20; position++) {
            int[] fours = {0x61626364, 0x65666768, 0x696a6b6c, 0x6d6e6f70, 0x71727374};
            fours[position / 4] |= 0x80 << position % 4 * 8;
            inSmallScene("sign above 127 at " + position, ARGUMENT, x -> x.feed(fours[0], fours[1], fours[2], fours[3], fours[4]));
        }
        inBothScenes("only sign 128", ARGUMENT, x -> x.feed(0, 0, 0, 0, 128));
        inBothScenes("only signs 255", ARGUMENT, x -> x.feed(-1, -1, -1, -1, -1));
    }

    /** Promise 2: "IllegalStateException: there would be more than 60": by one sign of each of a to e, and by twenty. */
    static void feedMoreThanSixty() {
        Scenes.Maker full = Scenes.fullPad();
        Refusals.changesNothing("one of a", full, STATE, x -> x.feed('a', 0, 0, 0, 0));
        Refusals.changesNothing("one of b", full, STATE, x -> x.feed(0, 'a' << 8, 0, 0, 0));
        Refusals.changesNothing("one of c", full, STATE, x -> x.feed(0, 0, 'a' << 16, 0, 0));
        Refusals.changesNothing("one of d", full, STATE, x -> x.feed(0, 0, 0, 'a' << 24, 0));
        Refusals.changesNothing("one of e", full, STATE, x -> x.feed(0, 0, 0, 0, 'a'));
        Refusals.changesNothing("twenty", full, STATE, x -> x.put("abcdefghijklmnopqrst"));
        String fiftyNine = "coin" + Questions.repeated(" ", 55);
        Refusals.changesNothing("two behind 59", Scenes.small(fiftyNine), STATE, x -> x.feed('a', 0, 0, 0, 'b'));
        String fortyOne = "coin" + Questions.repeated(" ", 37);
        Refusals.changesNothing("twenty behind 41", Scenes.small(fortyOne), STATE, x -> x.put("abcdefghijklmnopqrst"));
    }

    /** Promise 2, and Exceptions: "IllegalArgumentException, then IllegalStateException". */
    static void feedASignAbove127AndMoreThanSixty() {
        Refusals.changesNothing("both at once", Scenes.fullPad(), ARGUMENT, x -> x.feed('a', 0, 0, 0, 128));
        Refusals.changesNothing("both at once", Scenes.fullPad(), ARGUMENT, x -> x.feed(128, 'a', 0, 0, 0));
    }

    /** Promise 4: "IllegalStateException: there are 32". */
    static void recordBehind32() {
        Refusals.changesNothing("record 32", Scenes.full("al"), STATE, Search::record);
        Refusals.changesNothing("record 32, the pad empty", Scenes.full(""), STATE, Search::record);
    }

    /** Promise 5: "NoSuchElementException". */
    static void wordOfNoRecord() {
        for (int record : SMALL_RECORDS) {
            inSmallScene("record " + record, NO_SUCH, x -> x.word(record));
        }
        for (int record : outside(32)) {
            Refusals.changesNothing("record " + record, Scenes.full("al"), NO_SUCH, x -> x.word(record));
        }
        Refusals.changesNothing("no record, no word", Scenes.small("?"), NO_SUCH, x -> x.word(4));
    }

    /** Promise 5: "IllegalArgumentException: it is no word", also where the record has twelve. */
    static void wordThatIsNone() {
        for (String pad : new String[] {"", "abcdefghijk", "coin coin", "coin ", " coin", "coin~", "0:4", "@0-9999", "co1n", "coin?"}) {
            for (int record = 0; record < 2; record++) {
                int of = record;
                Refusals.changesNothing("'" + pad + "' (small)", Scenes.small(pad), ARGUMENT, x -> x.word(of));
                Refusals.changesNothing("'" + pad + "' (full)", Scenes.full(pad), ARGUMENT, x -> x.word(of));
            }
        }
        Refusals.changesNothing("sixty signs", Scenes.fullPad(), ARGUMENT, x -> x.word(0));
    }

    /** Promise 5: "IllegalStateException: it has twelve others". */
    static void wordBehindTwelveOthers() {
        for (String pad : new String[] {"a", "am", "AM", "zzzzzzzzzz", "aaa"}) {
            Refusals.changesNothing("'" + pad + "'", Scenes.full(pad), STATE, x -> x.word(0));
        }
    }

    /** Promise 6: "NoSuchElementException": record, facet, value. */
    static void facetOfNone() {
        for (int record : SMALL_RECORDS) {
            inSmallScene("record " + record, NO_SUCH, x -> x.facet(record, 0, 3));
        }
        for (int facet : outside(4)) {
            inBothScenes("facet " + facet, NO_SUCH, x -> x.facet(0, facet, 3));
            inSmallScene("facet " + facet + ", none", NO_SUCH, x -> x.facet(1, facet, NONE));
        }
        for (int value : outsideButNone(16)) {
            inBothScenes("value " + value, NO_SUCH, x -> x.facet(0, 3, value));
        }
        Refusals.changesNothing("record 32", Scenes.full("al"), NO_SUCH, x -> x.facet(32, 0, 0));
        inBothScenes("none of them", NO_SUCH, x -> x.facet(-1, 4, 16));
    }

    /** Promise 7: "NoSuchElementException": facet, value, parent. */
    static void parentOfNone() {
        for (int facet : outside(4)) {
            inBothScenes("facet " + facet, NO_SUCH, x -> x.parent(facet, 15, 7));
            inSmallScene("facet " + facet + ", none", NO_SUCH, x -> x.parent(facet, 5, NONE));
        }
        for (int value : outside(16)) {
            inBothScenes("value " + value, NO_SUCH, x -> x.parent(0, value, 7));
            inSmallScene("value " + value + ", none", NO_SUCH, x -> x.parent(0, value, NONE));
        }
        for (int of : outsideButNone(16)) {
            inBothScenes("parent " + of, NO_SUCH, x -> x.parent(0, 5, of));
        }
        inBothScenes("16 under itself", NO_SUCH, x -> x.parent(0, 16, 16));
    }

    /** Promise 7: "not, if the value would be under itself": the parent that it had stays. */
    static void parentThatCannotBe() {
        for (int value = 0; value < 16; value++) {
            int each = value;
            inBothScenes(value + " under itself", "false", x -> x.parent(3, each, each));
            Refusals.changesNothing("15 under " + value, Scenes.full("al"), "false", x -> x.parent(3, 15, each));
        }
        Refusals.changesNothing("7 under 0", Scenes.full("al"), "false", x -> x.parent(3, 7, 0));
        inSmallScene("4 under 5", "false", x -> x.parent(0, 4, 5));
        inSmallScene("2 under 5", "false", x -> x.parent(0, 2, 5));
    }

    /** Promise 8: "NoSuchElementException". */
    static void spanOfNoRecord() {
        for (int record : SMALL_RECORDS) {
            inSmallScene("record " + record, NO_SUCH, x -> x.span(record, 4, 5));
            inSmallScene("record " + record + ", no years", NO_SUCH, x -> x.span(record, 5, 4));
        }
        Refusals.changesNothing("record 32", Scenes.full("al"), NO_SUCH, x -> x.span(32, 4, 5));
    }

    /** Promise 8: "IllegalArgumentException: from is above to, or one is not 0 .. 9999". */
    static void spanOfNoYears() {
        int[][] none = {{11, 10}, {1, 0}, {9999, 9998}, {9999, 0}, {-1, 10}, {-1, -1}, {-2, -1}, {10, 10000}, {10000, 10000}, {10000, 10},
            {10, -1}, {10000, -1}, {Integer.MIN_VALUE, 10}, {10, Integer.MAX_VALUE}, {Integer.MIN_VALUE, Integer.MAX_VALUE},
            {Integer.MAX_VALUE, Integer.MIN_VALUE}, {65536, 65546}};
        for (int[] years : none) {
            inBothScenes(years[0] + " to " + years[1], ARGUMENT, x -> x.span(0, years[0], years[1]));
            inSmallScene(years[0] + " to " + years[1] + " where there is none", ARGUMENT, x -> x.span(3, years[0], years[1]));
        }
    }

    /** Promise 9: "NoSuchElementException": record, role. */
    static void rightOfNone() {
        for (boolean on : new boolean[] {true, false}) {
            for (int record : SMALL_RECORDS) {
                inSmallScene("record " + record, NO_SUCH, x -> x.right(record, 0, on));
            }
            for (int role : outside(8)) {
                inBothScenes("role " + role, NO_SUCH, x -> x.right(0, role, on));
            }
            Refusals.changesNothing("record 32", Scenes.full("al"), NO_SUCH, x -> x.right(32, 0, on));
        }
    }

    /** Promise 10: "NoSuchElementException: role": the pad and what was told stay, fault or not. */
    static void askOfNoRole() {
        for (int role : outside(8)) {
            inBothScenes("role " + role, NO_SUCH, x -> x.ask(role));
        }
        for (String pad : new String[] {"", "mint", "mint ?", "0:"}) {
            Refusals.changesNothing("'" + pad + "' of role 8", Scenes.small(pad), NO_SUCH, x -> x.ask(8));
            Refusals.changesNothing("'" + pad + "' of role -1", Scenes.full(pad), NO_SUCH, x -> x.ask(-1));
        }
    }

    /** Promise 10: at a fault "the pad stays, and what was told". */
    static void askWithAFault() {
        String[] texts = {"?", "mint ?", "mint @", "mint 0:16", "mint~ 0:2 @9-", "a b c d e f g h i", "abcdefghijk", "@12345", "0:", "coin@"};
        int[] places = {0, 5, 6, 8, 13, 16, 10, 5, 2, 4};
        for (int i = 0; i < texts.length; i++) {
            String answer = "" + (NONE - places[i]);
            Refusals.changesNothing("'" + texts[i] + "' (small)", Scenes.small(texts[i]), answer, x -> x.ask(7));
            Refusals.changesNothing("'" + texts[i] + "' (full)", Scenes.full(texts[i]), answer, x -> x.ask(0));
        }
    }

    /** Promise 11: "NoSuchElementException: there is none, or what is neither". */
    static void hitOfNone() {
        for (int k : outside(2)) {
            inBothScenes("hit " + k, NO_SUCH, x -> x.hit(k, 0));
            inBothScenes("what " + k, NO_SUCH, x -> x.hit(0, k));
        }
    }

    /** Promise 12: "NoSuchElementException": hit, term. */
    static void scoreOfNone() {
        for (int k : outside(2)) {
            inBothScenes("hit " + k, NO_SUCH, x -> x.score(k, 0));
            inSmallScene("term " + k, NO_SUCH, x -> x.score(0, k));
        }
        for (int term : outside(8)) {
            Refusals.changesNothing("term " + term, Scenes.full("al"), NO_SUCH, x -> x.score(1, term));
        }
    }

    /** Promise 13: "NoSuchElementException": facet, value. */
    static void countedOfNone() {
        for (int facet : outside(4)) {
            inBothScenes("facet " + facet, NO_SUCH, x -> x.counted(facet, 0));
        }
        for (int value : outside(16)) {
            inBothScenes("value " + value, NO_SUCH, x -> x.counted(3, value));
        }
    }

    /** Promise 14: "NoSuchElementException": either record. */
    static void farOfNone() {
        for (int record : SMALL_RECORDS) {
            inSmallScene("first " + record, NO_SUCH, x -> x.far(record, 0));
            inSmallScene("second " + record, NO_SUCH, x -> x.far(0, record));
            inSmallScene("second behind one without words " + record, NO_SUCH, x -> x.far(3, record));
        }
        Refusals.changesNothing("record 32", Scenes.full("al"), NO_SUCH, x -> x.far(0, 32));
    }

    /** Promise 15: "NoSuchElementException: record, or k is below 0". */
    static void likeOfNone() {
        for (int record : SMALL_RECORDS) {
            inSmallScene("record " + record, NO_SUCH, x -> x.like(record, 0));
        }
        for (int k : new int[] {-1, -2, -32, Integer.MIN_VALUE}) {
            inBothScenes("k " + k, NO_SUCH, x -> x.like(0, k));
        }
        Refusals.changesNothing("record 32", Scenes.full("al"), NO_SUCH, x -> x.like(32, 0));
    }

    /** Promise 16: "NoSuchElementException": record, word, sign. */
    static void letterOfNone() {
        for (int record : SMALL_RECORDS) {
            inSmallScene("record " + record, NO_SUCH, x -> x.letter(record, 0, 0));
        }
        for (int n : outside(12)) {
            inBothScenes("word " + n, NO_SUCH, x -> x.letter(0, n, -1));
        }
        for (int i : outsideButNone(10)) {
            inBothScenes("sign " + i, NO_SUCH, x -> x.letter(0, 0, i));
        }
        inSmallScene("sign behind the last", NO_SUCH, x -> x.letter(0, 0, 4));
        inSmallScene("word behind the last", NO_SUCH, x -> x.letter(0, 2, 0));
    }

    /** Promise 17: "IllegalArgumentException: none of these". */
    static void countOfNone() {
        for (int what : outside(6)) {
            inBothScenes("what " + what, ARGUMENT, x -> x.count(what));
        }
    }

    /** Promises 2, 3, 6 to 9: calls that ask for what is so already are answered, and change nothing. */
    static void callsForWhatIsSoAlready() {
        inSmallScene("no signs", "4", x -> x.feed(0, 0, 0, 0, 0));
        Refusals.changesNothing("no signs behind 60", Scenes.fullPad(), "60", x -> x.feed(0, 0, 0, 0, 0));
        Refusals.changesNothing("the empty pad", Scenes.small(""), "0", Search::clear);
        inSmallScene("the same value", "5", x -> x.facet(0, 0, 5));
        inSmallScene("none again", "-1", x -> x.facet(3, 3, NONE));
        inSmallScene("the same parent", "true", x -> x.parent(0, 5, 4));
        inSmallScene("no parent again", "true", x -> x.parent(0, 2, NONE));
        inSmallScene("the same span", "null", x -> x.span(0, 10, 20));
        inSmallScene("not seen already", "false", x -> x.right(0, 3, false));
        inSmallScene("seen already", "false", x -> x.right(0, 4, true));
    }

    /** Promises 11 to 17: these calls only tell, also at their edges ("NONE"). */
    static void callsThatOnlyTell() {
        inSmallScene("the last hit", "1", x -> x.hit(1, 0));
        inSmallScene("its score", "7", x -> x.hit(1, 1));
        inSmallScene("its last term's", "3", x -> x.score(1, 1));
        inSmallScene("counted", "2", x -> x.counted(0, 4));
        inSmallScene("far", "1", x -> x.far(0, 1));
        inSmallScene("far from one without words", "-1", x -> x.far(0, 3));
        inSmallScene("no record is like it", "-1", x -> x.like(0, 0));
        inSmallScene("letters", "5", x -> x.letter(0, 1, -1));
        Refusals.changesNothing("like", Scenes.full("al"), "31", x -> x.like(0, 0));
        Refusals.changesNothing("like, behind the last", Scenes.full("al"), "-1", x -> x.like(0, 1));
        Refusals.changesNothing("like, far behind", Scenes.full("al"), "-1", x -> x.like(0, Integer.MAX_VALUE));
        Refusals.changesNothing("the last term", Scenes.full("al"), "2", x -> x.score(1, 7));
        Refusals.changesNothing("terms", Scenes.full("al"), "8", x -> x.count(5));
    }
}
