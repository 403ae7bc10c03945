import java.util.NoSuchElementException;

/** Each promise of the document: ordinary inputs, the edges that it names, and wrong inputs. */
public final class PromisesTest {
    private static final int NONE = -1;
    private static final int[] WRONG_FACETS = {-1, 4, Integer.MIN_VALUE, Integer.MAX_VALUE};
    private static final int[] WRONG_VALUES = {-1, 16, Integer.MIN_VALUE, Integer.MAX_VALUE};
    private static final int[] WRONG_ROLES = {-1, 8, 32, Integer.MIN_VALUE, Integer.MAX_VALUE};
    private static final Class<?> NO_SUCH = NoSuchElementException.class;
    private static final Class<?> ARGUMENT = IllegalArgumentException.class;
    private static final Class<?> STATE = IllegalStateException.class;

    private static int wrong = 0;
    private static String promise = "";

    private interface Call {
        long answer();
    }

    public static void main(String[] args) {
        newObject();
        feed();
        clear();
        record();
        word();
        facet();
        parent();
        span();
        right();
        askReads();
        askFaults();
        askScores();
        hit();
        score();
        counted();
        far();
        like();
        letter();
        count();
        System.out.println(wrong == 0 ? "all promises hold" : wrong + " answers are not as due");
        if (wrong != 0) {
            System.exit(1);
        }
    }

    // --- helpers

    private static void due(String what, long got, long want) {
        if (got != want) {
            wrong++;
            System.out.println(promise + ": " + what + " answered " + got + ", due is " + want);
        }
    }

    private static void dueThrown(String what, Class<?> want, Call call) {
        String got;
        try {
            got = "" + call.answer();
        } catch (RuntimeException e) {
            got = e.getClass().getName();
        }
        if (!got.equals(want.getName())) {
            wrong++;
            System.out.println(promise + ": " + what + " answered " + got + ", due is " + want.getName());
        }
    }

    private static int asNumber(boolean b) {
        return b ? 1 : 0;
    }

    private static int four(String text, int from) {
        int four = 0;
        for (int i = 0; i < 4 && from + i < text.length(); i++) {
            four |= text.charAt(from + i) << 8 * i;
        }
        return four;
    }

    private static int put(FacetSearch x, String text) {
        int i = 0;
        int signs;
        do {
            signs = x.feed(four(text, i), four(text, i + 4), four(text, i + 8), four(text, i + 12), four(text, i + 16));
            i += 20;
        } while (i < text.length());
        return signs;
    }

    private static FacetSearch with(int records) {
        FacetSearch x = new FacetSearch();
        for (int i = 0; i < records; i++) {
            x.record();
        }
        return x;
    }

    private static void words(FacetSearch x, int record, String... texts) {
        for (String text : texts) {
            put(x, text);
            x.word(record);
        }
    }

    private static int ask(FacetSearch x, int role, String text) {
        x.clear();
        put(x, text);
        return x.ask(role);
    }

    private static String wordsOf(FacetSearch x, int record, int words) {
        StringBuilder all = new StringBuilder();
        for (int n = 0; n < words; n++) {
            for (int i = 0; i < x.letter(record, n, -1); i++) {
                all.append((char) x.letter(record, n, i));
            }
            all.append(' ');
        }
        return all.toString();
    }

    private static void dueText(String what, String got, String want) {
        if (!got.equals(want)) {
            wrong++;
            System.out.println(promise + ": " + what + " is '" + got + "', due is '" + want + "'");
        }
    }

    // --- the promises

    private static void newObject() {
        promise = "1 new object";
        FacetSearch x = new FacetSearch();
        for (int what = 0; what <= 5; what++) {
            due("count(" + what + ")", x.count(what), 0);
        }
        due("clear()", x.clear(), 0);
        dueThrown("hit(0, 0)", NO_SUCH, () -> x.hit(0, 0));
        dueThrown("score(0, 0)", NO_SUCH, () -> x.score(0, 0));
        due("counted(0, 0)", x.counted(0, 0), 0);
        dueThrown("like(0, 0)", NO_SUCH, () -> x.like(0, 0));
        due("ask of an empty pad", x.ask(7), 0);
        due("NONE", FacetSearch.NONE, NONE);
        FacetSearch y = new FacetSearch();
        y.record();
        due("records of another object", x.count(1), 0);
    }

    private static void feed() {
        promise = "2 feed";
        FacetSearch x = with(1);
        due("nothing", x.feed(0, 0, 0, 0, 0), 0);
        due("zeros between", x.feed(0x00610000, 0x62000063, 0, 0x64, 0), 4);
        due("word", x.word(0), 1);
        dueText("order", wordsOf(x, 0, 1), "acbd ");
        due("all of a to e", x.feed(0x64636261, 0x68676665, 0x00006a69, 0, 0), 10);
        x.word(0);
        dueText("lowest bits first", wordsOf(x, 0, 2), "abcdefghij acbd ");
        due("e", x.feed(0, 0, 0, 0, 'e'), 1);
        due("behind", x.feed('f', 0, 0, 0, 0), 2);
        x.word(0);
        dueText("behind the pad", wordsOf(x, 0, 3), "abcdefghij acbd ef ");
        due("sign 127 and 1", x.feed(127, 1, 0, 0, 0x7f000000), 3);
        due("A .. Z", x.clear() + put(x, "AZ"), 5);
        x.word(0);
        dueText("as a .. z", wordsOf(x, 0, 3), "abcdefghij acbd az ");
        int[] high = {128, 255, 0x80, 0x8000, 0x800000, 0x80000000, -1, Integer.MIN_VALUE};
        for (int sign : high) {
            dueThrown("a " + sign, ARGUMENT, () -> x.feed(sign, 0, 0, 0, 0));
            dueThrown("b " + sign, ARGUMENT, () -> x.feed('a', sign, 0, 0, 0));
            dueThrown("c " + sign, ARGUMENT, () -> x.feed('a', 0, sign, 0, 0));
            dueThrown("d " + sign, ARGUMENT, () -> x.feed('a', 0, 0, sign, 0));
            dueThrown("e " + sign, ARGUMENT, () -> x.feed('a', 0, 0, 0, sign));
        }
        due("pad as before", x.count(0), 0);
        feedFull();
    }

    private static void feedFull() {
        FacetSearch x = with(1);
        String twenty = "abcdefghijabcdefghij";
        put(x, twenty);
        put(x, twenty);
        due("59", put(x, twenty.substring(1)), 59);
        dueThrown("61", STATE, () -> x.feed('a', 0, 'b', 0, 0));
        due("59 as before", x.count(0), 59);
        due("60", x.feed(0, 0, 0, 0x61000000, 0), 60);
        dueThrown("61 by a", STATE, () -> x.feed('a', 0, 0, 0, 0));
        dueThrown("61 by b", STATE, () -> x.feed(0, 'a', 0, 0, 0));
        dueThrown("61 by c", STATE, () -> x.feed(0, 0, 'a', 0, 0));
        dueThrown("61 by d", STATE, () -> x.feed(0, 0, 0, 'a', 0));
        dueThrown("61 by e", STATE, () -> x.feed(0, 0, 0, 0, 'a'));
        dueThrown("80", STATE, () -> put(x, twenty));
        dueThrown("argument ahead of state", ARGUMENT, () -> x.feed('a', 0, 0, 0, 128));
        due("none more", x.feed(0, 0, 0, 0, 0), 60);
        due("clear", x.clear(), 60);
        due("again", put(x, twenty), 20);
    }

    private static void clear() {
        promise = "3 clear";
        FacetSearch x = with(1);
        put(x, "abc");
        due("clear()", x.clear(), 3);
        due("count(0)", x.count(0), 0);
        due("clear() again", x.clear(), 0);
        put(x, "x");
        x.word(0);
        dueText("nothing of it left", wordsOf(x, 0, 1), "x ");
        due("clear() behind a word", x.clear(), 0);
    }

    private static void record() {
        promise = "4 record";
        FacetSearch x = new FacetSearch();
        for (int i = 0; i < 32; i++) {
            due("record()", x.record(), i);
        }
        dueThrown("the 33rd", STATE, x::record);
        due("count(1)", x.count(1), 32);
        due("facet of the last", x.facet(31, 0, 5), NONE);
        dueThrown("record 32", NO_SUCH, () -> x.facet(32, 0, 0));
        FacetSearch y = with(1);
        for (int facet = 0; facet < 4; facet++) {
            due("value at first", y.facet(0, facet, NONE), NONE);
        }
        for (int role = 0; role < 8; role++) {
            due("seen at first by " + role, y.ask(role), 1);
        }
        due("no span at first", ask(y, 0, "@0-9999"), 0);
        due("no words at first", y.far(0, 0), NONE);
    }

    private static void word() {
        promise = "5 word";
        FacetSearch x = with(2);
        put(x, "coin");
        due("first", x.word(0), 1);
        due("pad is empty", x.count(0), 0);
        put(x, "COIN");
        due("the same again", x.word(0), 1);
        due("pad is empty again", x.count(0), 0);
        put(x, "coin");
        due("of another record", x.word(1), 1);
        put(x, "abcdefghij");
        due("ten letters", x.word(0), 2);
        put(x, "z");
        due("one letter", x.word(0), 3);
        String[] none = {"", "abcdefghijk", "a b", " a", "a ", "a1", "a~", "~", "a`", "a{", "a@", "a[", "abcdefghij "};
        for (String text : none) {
            x.clear();
            put(x, text);
            dueThrown("'" + text + "'", ARGUMENT, () -> x.word(0));
            due("pad stays", x.count(0), text.length());
            dueThrown("record ahead", NO_SUCH, () -> x.word(2));
            dueThrown("record ahead", NO_SUCH, () -> x.word(-1));
        }
        x.clear();
        due("words stay", x.count(2), 4);
        for (char c = 'a'; c <= 'i'; c++) {
            put(x, "w" + c);
            due("w" + c, x.word(0), 4 + c - 'a');
        }
        put(x, "other");
        dueThrown("the 13th", STATE, () -> x.word(0));
        due("pad stays", x.clear(), 5);
        put(x, "wi");
        due("one of the twelve", x.word(0), 12);
        due("pad is empty", x.count(0), 0);
        put(x, "1");
        dueThrown("argument ahead of state", ARGUMENT, () -> x.word(0));
        dueText("all", wordsOf(x, 0, 12), "abcdefghij coin wa wb wc wd we wf wg wh wi z ");
    }

    private static void facet() {
        promise = "6 facet";
        FacetSearch x = with(2);
        for (int facet = 0; facet < 4; facet++) {
            due("first", x.facet(1, facet, 12 + facet), NONE);
        }
        for (int facet = 0; facet < 4; facet++) {
            due("second", x.facet(1, facet, facet), 12 + facet);
            due("the other record's", x.facet(0, facet, NONE), NONE);
        }
        due("none", x.facet(1, 3, NONE), 3);
        due("was none", x.facet(1, 3, 15), NONE);
        for (int wrongFacet : WRONG_FACETS) {
            dueThrown("facet " + wrongFacet, NO_SUCH, () -> x.facet(1, wrongFacet, 0));
        }
        for (int value : new int[] {-2, 16, Integer.MIN_VALUE, Integer.MAX_VALUE}) {
            dueThrown("value " + value, NO_SUCH, () -> x.facet(1, 0, value));
        }
        dueThrown("record", NO_SUCH, () -> x.facet(2, 0, 0));
        dueThrown("record", NO_SUCH, () -> x.facet(-1, 0, 0));
        due("as before", x.facet(1, 0, 0), 0);
    }

    private static void parent() {
        promise = "7 parent";
        FacetSearch x = with(1);
        x.facet(0, 2, 3);
        due("3 under 4", asNumber(x.parent(2, 3, 4)), 1);
        due("again", asNumber(x.parent(2, 3, 4)), 1);
        due("itself", asNumber(x.parent(2, 3, 3)), 0);
        due("4 under 3", asNumber(x.parent(2, 4, 3)), 0);
        due("4 under 15", asNumber(x.parent(2, 4, 15)), 1);
        due("15 under 3", asNumber(x.parent(2, 15, 3)), 0);
        due("15 under 3 of another facet", asNumber(x.parent(1, 15, 3)), 1);
        due("3 is under 15", ask(x, 0, "2:15"), 1);
        due("no longer", asNumber(x.parent(2, 4, NONE)), 1);
        due("3 is not under 15", ask(x, 0, "2:15"), 0);
        due("3 is under 4", ask(x, 0, "2:4"), 1);
        due("now 15 under 3", asNumber(x.parent(2, 15, 3)), 1);
        due("another parent", asNumber(x.parent(2, 3, 0)), 1);
        due("3 is not under 4", ask(x, 0, "2:4"), 0);
        due("0 under 15", asNumber(x.parent(2, 0, 15)), 0);
        due("3 is under 0", ask(x, 0, "2:0"), 1);
        for (int facet : WRONG_FACETS) {
            dueThrown("facet " + facet, NO_SUCH, () -> asNumber(x.parent(facet, 0, 1)));
        }
        for (int value : WRONG_VALUES) {
            dueThrown("value " + value, NO_SUCH, () -> asNumber(x.parent(0, value, 1)));
            dueThrown("value and none " + value, NO_SUCH, () -> asNumber(x.parent(0, value, NONE)));
        }
        for (int of : new int[] {-2, 16, Integer.MIN_VALUE, Integer.MAX_VALUE}) {
            dueThrown("of " + of, NO_SUCH, () -> asNumber(x.parent(2, 3, of)));
        }
        due("3 is still under 0", ask(x, 0, "2:0"), 1);
        parentChain();
    }

    private static void parentChain() {
        FacetSearch x = with(1);
        x.facet(0, 3, 0);
        for (int value = 0; value < 15; value++) {
            due("chain", asNumber(x.parent(3, value, value + 1)), 1);
        }
        for (int value = 0; value < 16; value++) {
            due("15 under " + value, asNumber(x.parent(3, 15, value)), 0);
        }
        due("the whole chain", ask(x, 0, "3:15"), 1);
        due("counted at its top", x.counted(3, 15), 1);
    }

    private static void span() {
        promise = "8 span";
        FacetSearch x = with(2);
        x.span(0, 10, 20);
        due("within", ask(x, 0, "@12-13"), 1);
        due("its first year", ask(x, 0, "@0-10"), 1);
        due("its last year", ask(x, 0, "@20-9999"), 1);
        due("ahead", ask(x, 0, "@0-9"), 0);
        due("behind", ask(x, 0, "@21-30"), 0);
        x.span(0, 0, 0);
        due("year 0", ask(x, 0, "@0-0"), 1);
        due("year 1", ask(x, 0, "@1-9999"), 0);
        x.span(0, 9999, 9999);
        due("year 9999", ask(x, 0, "@9999-9999"), 1);
        due("year 9998", ask(x, 0, "@0-9998"), 0);
        int[][] none = {{3, 2}, {-1, 2}, {-2, -1}, {0, 10000}, {10000, 10000}, {10000, 9999},
            {Integer.MIN_VALUE, Integer.MAX_VALUE}, {Integer.MAX_VALUE, Integer.MIN_VALUE}, {5, Integer.MAX_VALUE}};
        for (int[] span : none) {
            dueThrown(span[0] + " to " + span[1], ARGUMENT, () -> spanned(x, 0, span[0], span[1]));
            dueThrown("record ahead", NO_SUCH, () -> spanned(x, 2, span[0], span[1]));
        }
        dueThrown("record", NO_SUCH, () -> spanned(x, -1, 0, 1));
        due("as before", ask(x, 0, "@9999-9999"), 1);
        due("as before", ask(x, 0, "@0-9998"), 0);
    }

    private static long spanned(FacetSearch x, int record, int from, int to) {
        x.span(record, from, to);
        return 0;
    }

    private static void right() {
        promise = "9 right";
        FacetSearch x = with(2);
        for (int role = 0; role < 8; role++) {
            due("on at first", asNumber(x.right(0, role, true)), 0);
            due("off", asNumber(x.right(0, role, false)), 1);
            due("off again", asNumber(x.right(0, role, false)), 0);
            due("sees the other one", x.ask(role), 1);
            due("which is", x.hit(0, 0), 1);
        }
        due("on", asNumber(x.right(0, 5, true)), 1);
        due("on again", asNumber(x.right(0, 5, true)), 0);
        due("role 5", x.ask(5), 2);
        due("role 4", x.ask(4), 1);
        due("role 6", x.ask(6), 1);
        for (int role : WRONG_ROLES) {
            dueThrown("role " + role, NO_SUCH, () -> asNumber(x.right(0, role, true)));
            dueThrown("role " + role, NO_SUCH, () -> asNumber(x.right(0, role, false)));
        }
        dueThrown("record", NO_SUCH, () -> asNumber(x.right(2, 0, false)));
        dueThrown("record", NO_SUCH, () -> asNumber(x.right(-1, 0, false)));
        due("role 0 as before", x.ask(0), 1);
    }

    private static void askReads() {
        promise = "10 ask";
        FacetSearch x = with(1);
        words(x, 0, "a", "abcdefghij");
        x.facet(0, 0, 5);
        x.span(0, 7, 9);
        String[] holds = {"", " ", "     ", "a", " a ", "a  a", "A", "abcdefghij", "abcdefghij~", "b~", "0:5", "0:05",
            "@7-7", "@0-9999", "@0007-0009", "@00-09", "a a~ 0:5 @8-8", "a a a a a a a a", "  a a a a a a a a  "};
        int[] terms = {0, 0, 0, 1, 1, 2, 1, 1, 1, 1, 1, 1, 1, 1, 1, 1, 4, 8, 8};
        for (int i = 0; i < holds.length; i++) {
            due("'" + holds[i] + "'", ask(x, 0, holds[i]), 1);
            due("terms of it", x.count(5), terms[i]);
            due("pad is empty", x.count(0), 0);
        }
        String[] fails = {"b", "ab", "abcdefghi", "efgh~", "0:0", "0:00", "0:15", "0:06", "1:5", "3:0", "@0-6", "@10-10",
            "@9-7", "a b", "0:5 1:5", "a a~ 0:5 @6-6"};
        for (String text : fails) {
            due("'" + text + "'", ask(x, 0, text), 0);
            due("pad is empty", x.count(0), 0);
        }
        put(x, "a");
        for (int role : WRONG_ROLES) {
            dueThrown("role " + role, NO_SUCH, () -> x.ask(role));
        }
        due("pad stays", x.clear(), 1);
        put(x, "?");
        dueThrown("role ahead of the fault", NO_SUCH, () -> x.ask(8));
    }

    private static void askFaults() {
        String[] texts = {"abcdefghijk", "abcdefghij~~", "a~b", "~", "a1", "a:1", "a@", "4:1", "9", "0", "0:", "0 :1",
            "0: 1", "00:1", "0:16", "0:20", "0:99", "0:015", "0:1a", "0:5~", "3:155", "@", "@-", "@1", "@1-", "@12345-6",
            "@1-12345", "@00001-2", "@1-00002", "@1 -2", "@1- 2", "@1-2-", "@1-2~", "@a", "@1-a", "  ?", "a ?", "a\t", "\u0001", "\u007f", "a\u007f",
            "a b c d e f g h i", "a b c d e f g h  ?", "a b c d e f g hi~ 0", "a b c d e f g 0:", "a`", "a{", "/", ":", "@/",
            "@:", "@1-/", "@1-:", "0:/", "0::", "a~ ~", "0:1@"};
        int[] places = {10, 11, 2, 0, 1, 1, 1, 0, 0, 1, 2, 1,
            2, 1, 3, 3, 3, 4, 3, 3, 4, 1, 1, 2, 3, 5,
            7, 5, 7, 2, 3, 4, 4, 1, 3, 2, 2, 1, 0, 0, 1,
            16, 17, 18, 16, 1, 1, 0, 0, 1,
            1, 3, 3, 2, 2, 3, 3};
        due("as many places as texts", places.length, texts.length);
        for (int i = 0; i < texts.length; i++) {
            askFault(texts[i], places[i]);
        }
        FacetSearch x = with(2);
        due("told", ask(x, 0, ""), 2);
        String full = "abcdefghij abcdefghij abcdefghij abcdefghij abcdefghij 0:1 @";
        due("sixty signs", ask(x, 0, full), -61);
        due("pad", x.clear(), 60);
        words(x, 0, "q");
        ask(x, 0, "q @1");
        x.clear();
        due("what was told stays", x.hit(0, 1), 0);
        due("an unread term is none", ask(x, 0, "q"), 1);
        due("one term", x.count(5), 1);
    }

    private static void askFault(String text, int place) {
        FacetSearch x = with(2);
        due("told", ask(x, 0, ""), 2);
        due("'" + text + "'", ask(x, 0, text), NONE - place);
        due("pad stays", x.count(0), text.length());
        due("hits stay", x.count(4), 2);
        due("terms stay", x.count(5), 0);
        due("hit stays", x.hit(1, 0), 1);
    }

    private static void askScores() {
        FacetSearch x = with(5);
        words(x, 0, "coin", "hoard");
        words(x, 1, "coins");
        words(x, 2, "corns");
        words(x, 3, "mint", "gold");
        x.facet(0, 1, 5);
        x.facet(1, 1, 4);
        x.facet(2, 1, 2);
        x.facet(3, 1, 9);
        x.parent(1, 5, 4);
        x.parent(1, 4, 2);
        x.span(3, 100, 200);
        due("near", ask(x, 0, "coin~"), 3);
        due("0 far", x.score(0, 0), 6);
        due("1 far", x.score(1, 0), 4);
        due("2 far", x.score(2, 0), 2);
        due("word", ask(x, 0, "coin"), 1);
        due("its score", x.hit(0, 1), 10);
        due("value", ask(x, 0, "1:2"), 3);
        due("this one", x.hit(0, 0), 2);
        due("scores 3", x.hit(0, 1), 3);
        due("under it", x.hit(1, 0), 0);
        due("scores 1", x.hit(1, 1), 1);
        due("under it, too", x.hit(2, 0), 1);
        due("scores 1", x.hit(2, 1), 1);
        due("years", ask(x, 0, "@150-300"), 1);
        due("scores 2", x.hit(0, 1), 2);
        due("all", ask(x, 0, "coin~ 1:4"), 2);
        due("0: 6 and 1", x.hit(0, 1), 7);
        due("1: 4 and 3", x.hit(1, 1), 7);
        due("equal, by number", x.hit(0, 0), 0);
        due("the nearest", ask(x, 0, "golf~"), 1);
        due("of all words", x.score(0, 0), 4);
        words(x, 3, "bold");
        ask(x, 0, "gold~");
        due("the same behind one that is near", x.score(0, 0), 6);
        due("every record", ask(x, 0, ""), 5);
        for (int k = 0; k < 5; k++) {
            due("by number", x.hit(k, 0), k);
            due("score 0", x.hit(k, 1), 0);
        }
    }

    private static void hit() {
        promise = "11 hit";
        FacetSearch x = with(3);
        words(x, 2, "a");
        words(x, 1, "ab");
        due("hits", ask(x, 0, "a~"), 2);
        due("first", x.hit(0, 0), 2);
        due("its score", x.hit(0, 1), 6);
        due("second", x.hit(1, 0), 1);
        due("its score", x.hit(1, 1), 4);
        x.right(2, 0, false);
        words(x, 0, "a");
        x.record();
        put(x, "b");
        due("as it was", x.hit(0, 0), 2);
        due("as it was", x.count(4), 2);
        for (int k : new int[] {-1, 2, 32, Integer.MIN_VALUE, Integer.MAX_VALUE}) {
            dueThrown("hit " + k, NO_SUCH, () -> x.hit(k, 0));
            dueThrown("hit " + k, NO_SUCH, () -> x.hit(k, 1));
        }
        for (int what : new int[] {-1, 2, Integer.MIN_VALUE, Integer.MAX_VALUE}) {
            dueThrown("what " + what, NO_SUCH, () -> x.hit(0, what));
        }
        due("no hits", ask(x, 0, "zzzz"), 0);
        dueThrown("hit of none", NO_SUCH, () -> x.hit(0, 0));
        FacetSearch full = with(32);
        words(full, 31, "a");
        due("all 32", ask(full, 0, ""), 32);
        due("the last", full.hit(31, 0), 31);
        dueThrown("hit 32", NO_SUCH, () -> full.hit(32, 0));
    }

    private static void score() {
        promise = "12 score";
        FacetSearch x = with(32);
        for (int record = 0; record < 32; record++) {
            words(x, record, record == 31 ? "a" : "ab");
            x.facet(record, 0, 1);
            x.span(record, 5, 5);
        }
        due("hits", ask(x, 0, "a~ 0:1 @5-5 0:1 a~ a~ 0:1 @1-9"), 32);
        int[] best = {6, 3, 2, 3, 6, 6, 3, 2};
        int[] others = {4, 3, 2, 3, 4, 4, 3, 2};
        for (int term = 0; term < 8; term++) {
            due("best, term " + term, x.score(0, term), best[term]);
            due("last, term " + term, x.score(31, term), others[term]);
        }
        x.facet(31, 0, 2);
        x.parent(0, 1, 2);
        x.span(31, 6, 6);
        due("as it was", x.score(0, 1), 3);
        due("as it was", x.score(0, 2), 2);
        for (int term : new int[] {-1, 8, Integer.MIN_VALUE, Integer.MAX_VALUE}) {
            dueThrown("term " + term, NO_SUCH, () -> x.score(0, term));
        }
        for (int k : new int[] {-1, 32, Integer.MIN_VALUE, Integer.MAX_VALUE}) {
            dueThrown("hit " + k, NO_SUCH, () -> x.score(k, 0));
        }
        due("one term", ask(x, 0, "a"), 1);
        due("it scores", x.score(0, 0), 10);
        dueThrown("term 1", NO_SUCH, () -> x.score(0, 1));
        dueThrown("hit 1", NO_SUCH, () -> x.score(1, 0));
        ask(x, 0, "");
        dueThrown("no terms", NO_SUCH, () -> x.score(0, 0));
    }

    private static void counted() {
        promise = "13 counted";
        FacetSearch x = with(5);
        int[] values = {3, 4, 4, 15};
        for (int record = 0; record < 4; record++) {
            x.facet(record, 3, values[record]);
            x.facet(record, 0, 0);
        }
        x.parent(3, 3, 4);
        x.parent(3, 4, 5);
        x.parent(2, 15, 0);
        x.right(2, 1, false);
        due("before a question", x.counted(3, 4), 0);
        due("hits", ask(x, 1, ""), 4);
        int[] want = {0, 0, 0, 1, 2, 2, 0, 0, 0, 0, 0, 0, 0, 0, 0, 1};
        for (int value = 0; value < 16; value++) {
            due("value " + value, x.counted(3, value), want[value]);
            due("another facet's " + value, x.counted(2, value), 0);
        }
        due("facet 0", x.counted(0, 0), 3);
        x.facet(3, 3, 7);
        x.parent(3, 4, 6);
        due("value as it was", x.counted(3, 15), 1);
        due("value as it was", x.counted(3, 7), 0);
        due("tree as it was", x.counted(3, 5), 2);
        due("tree as it was", x.counted(3, 6), 0);
        ask(x, 0, "?");
        due("stays behind a fault", x.counted(3, 5), 2);
        due("only hits count", ask(x, 0, "3:4"), 3);
        due("4", x.counted(3, 4), 3);
        due("7", x.counted(3, 7), 0);
        for (int facet : WRONG_FACETS) {
            dueThrown("facet " + facet, NO_SUCH, () -> x.counted(facet, 0));
        }
        for (int value : WRONG_VALUES) {
            dueThrown("value " + value, NO_SUCH, () -> x.counted(0, value));
        }
    }

    private static void far() {
        promise = "14 far";
        String[][] pairs = {{"a", "a"}, {"a", "b"}, {"a", "ab"}, {"ab", "b"}, {"ab", "ba"}, {"kitten", "sitting"},
            {"abcdefghij", "klmnopqrst"}, {"abcdefghij", "bcdefghijk"}, {"a", "abcdefghij"}, {"z", "abcdefghij"},
            {"abcdef", "azced"}, {"abcdefghij", "jihgfedcba"}, {"coin", "corn"}, {"sunday", "saturday"}};
        int[] want = {0, 1, 1, 1, 2, 3, 10, 2, 9, 10, 3, 10, 1, 3};
        for (int i = 0; i < pairs.length; i++) {
            FacetSearch x = with(2);
            words(x, 0, pairs[i][0]);
            words(x, 1, pairs[i][1]);
            due(pairs[i][0] + " and " + pairs[i][1], x.far(0, 1), want[i]);
            due(pairs[i][1] + " and " + pairs[i][0], x.far(1, 0), want[i]);
        }
        FacetSearch x = with(3);
        words(x, 0, "abcdefghij", "mint", "gold");
        words(x, 1, "zzzzzzz", "bold", "qqqqqqqqqq");
        due("the nearest", x.far(0, 1), 1);
        due("the nearest", x.far(1, 0), 1);
        words(x, 1, "gold");
        due("the same behind one that is near", x.far(0, 1), 0);
        due("the same behind one that is near", x.far(1, 0), 0);
        due("itself", x.far(0, 0), 0);
        due("none", x.far(0, 2), NONE);
        due("none", x.far(2, 0), NONE);
        due("none", x.far(2, 2), NONE);
        for (int record : new int[] {-1, 3, 32, Integer.MIN_VALUE, Integer.MAX_VALUE}) {
            dueThrown("a " + record, NO_SUCH, () -> x.far(record, 0));
            dueThrown("b " + record, NO_SUCH, () -> x.far(0, record));
            dueThrown("b of an empty one " + record, NO_SUCH, () -> x.far(2, record));
        }
    }

    private static void like() {
        promise = "15 like";
        FacetSearch x = with(6);
        words(x, 0, "a", "b", "c");
        words(x, 1, "b");
        words(x, 2, "d", "ab");
        words(x, 3, "c", "a", "q");
        words(x, 4, "c");
        x.facet(0, 0, 1);
        x.facet(0, 3, 2);
        x.facet(1, 0, 2);
        x.facet(1, 1, 1);
        x.facet(4, 3, 2);
        x.facet(4, 0, 1);
        int[] want = {4, 3, 1, NONE, NONE};
        for (int k = 0; k < want.length; k++) {
            due("of 0, " + k, x.like(0, k), want[k]);
        }
        due("none at all", x.like(2, 0), NONE);
        due("two that have no values", x.like(5, 0), NONE);
        due("far behind", x.like(0, Integer.MAX_VALUE), NONE);
        words(x, 1, "a");
        due("equal ones", x.like(0, 1), 1);
        due("by number", x.like(0, 2), 3);
        x.parent(0, 2, 1);
        due("under is not the same", x.like(0, 1), 1);
        x.right(4, 0, false);
        due("roles do not matter", x.like(0, 0), 4);
        ask(x, 0, "a");
        due("nor does a question", x.like(0, 0), 4);
        due("and it is not touched", x.count(4), 3);
        dueThrown("k", NO_SUCH, () -> x.like(0, -1));
        dueThrown("k", NO_SUCH, () -> x.like(0, Integer.MIN_VALUE));
        dueThrown("record", NO_SUCH, () -> x.like(6, 0));
        dueThrown("record", NO_SUCH, () -> x.like(-1, 0));
        FacetSearch full = with(32);
        for (int record = 0; record < 32; record++) {
            full.facet(record, 2, 0);
        }
        due("31 others", full.like(31, 30), 30);
        due("and no more", full.like(31, 31), NONE);
        due("without itself", full.like(4, 4), 5);
    }

    private static void letter() {
        promise = "16 letter";
        FacetSearch x = with(2);
        words(x, 0, "b", "ab", "abc", "a", "aa", "zyxwvutsrq", "abb");
        dueText("order", wordsOf(x, 0, 7), "a aa ab abb abc b zyxwvutsrq ");
        due("length", x.letter(0, 6, -1), 10);
        due("z", x.letter(0, 6, 0), 'z');
        due("q", x.letter(0, 6, 9), 'q');
        due("length 1", x.letter(0, 0, -1), 1);
        for (int i : new int[] {-2, 10, Integer.MIN_VALUE, Integer.MAX_VALUE}) {
            dueThrown("i " + i, NO_SUCH, () -> x.letter(0, 6, i));
        }
        dueThrown("behind the last", NO_SUCH, () -> x.letter(0, 0, 1));
        for (int n : new int[] {-1, 7, 12, Integer.MIN_VALUE, Integer.MAX_VALUE}) {
            dueThrown("n " + n, NO_SUCH, () -> x.letter(0, n, 0));
            dueThrown("length of n " + n, NO_SUCH, () -> x.letter(0, n, -1));
        }
        dueThrown("no words", NO_SUCH, () -> x.letter(1, 0, -1));
        dueThrown("record", NO_SUCH, () -> x.letter(2, 0, 0));
        dueThrown("record", NO_SUCH, () -> x.letter(-1, 0, 0));
    }

    private static void count() {
        promise = "17 count";
        FacetSearch x = with(3);
        words(x, 0, "a", "b", "a");
        words(x, 1, "b", "c");
        words(x, 2, "b");
        due("asked", ask(x, 0, "b a~"), 3);
        put(x, "abcd");
        int[] want = {4, 3, 5, 3, 3, 2};
        for (int what = 0; what < 6; what++) {
            due("count(" + what + ")", x.count(what), want[what]);
        }
        for (int what : new int[] {-1, 6, Integer.MIN_VALUE, Integer.MAX_VALUE}) {
            dueThrown("count(" + what + ")", ARGUMENT, () -> x.count(what));
        }
        due("no hits", ask(x, 0, "zzzz c"), 0);
        due("hits", x.count(4), 0);
        due("terms", x.count(5), 2);
        // Twenty records, not 32: these are 500 calls, and an object is promised 512.
        FacetSearch many = with(20);
        for (int record = 0; record < 20; record++) {
            for (char c = 'a'; c < 'a' + 12; c++) {
                words(many, record, c + (record % 2 == 0 ? "" : "x"));
            }
        }
        due("words of all", many.count(2), 240);
        due("different words", many.count(3), 24);
    }
}
