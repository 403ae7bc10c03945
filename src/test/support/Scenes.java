/**
 * Objects that have been used: what a call changes that should change nothing, shows in them. No
 * scene takes role 7 away from a record, so role 7's questions show every one.
 */
final class Scenes {
    static final int SEES_ALL = 7;
    /** Sixty signs that are a question of eight terms, with the last one at the very end. */
    static final String SIXTY_SIGNS = "  al al~ alm~   @5-5 @0-9999   0:4  0:2               @10-20";

    interface Maker {
        Search make();
    }

    private Scenes() {
    }

    /** Four records; the latest question has two terms and two hits, of equal scores. */
    static Maker small(String pad) {
        return () -> {
            Search x = Search.withRecords(4);
            x.words(0, "coin", "hoard");
            x.words(1, "coins", "gold");
            x.words(2, "mint");
            x.facet(0, 0, 5);
            x.facet(0, 1, 15);
            x.facet(1, 0, 4);
            x.facet(1, 3, 0);
            x.facet(2, 0, 2);
            x.facet(2, 2, 7);
            x.parent(0, 5, 4);
            x.parent(0, 4, 2);
            x.parent(1, 15, 0);
            x.parent(3, 0, 9);
            x.span(0, 10, 20);
            x.span(1, 0, 0);
            x.span(2, 9999, 9999);
            x.right(0, 3, false);
            x.right(2, 0, false);
            x.right(3, 5, false);
            x.ask(1, "coin~ 0:4");
            x.put(pad);
            return x;
        };
    }

    /**
     * All 32 records, record 0 with twelve words, record 1 with eleven, a tree of all sixteen
     * values one under the other; the latest question has eight terms and two hits.
     */
    static Maker full(String pad) {
        return () -> {
            Search x = Search.withRecords(32);
            for (char c = 'a'; c <= 'l'; c++) {
                x.word(0, "a" + c);
                if (c != 'l') {
                    x.word(1, "b" + c);
                }
            }
            x.words(31, "al");
            for (int value = 0; value < 15; value++) {
                x.parent(3, value, value + 1);
            }
            x.facet(0, 3, 0);
            x.facet(31, 3, 15);
            x.facet(31, 0, 15);
            x.span(0, 0, 9999);
            x.span(31, 5, 6);
            x.right(31, 0, false);
            x.right(0, 3, false);
            x.ask(SEES_ALL, "al al al~ al al al 3:15 @5-5");
            x.put(pad);
            return x;
        };
    }

    /** One record, a question without terms that hits it, and a full pad. */
    static Maker fullPad() {
        return () -> {
            Search x = Search.withRecords(1);
            x.ask(SEES_ALL);
            x.words(0, "al");
            x.facet(0, 0, 4);
            x.parent(0, 4, 2);
            x.span(0, 5, 10);
            x.put(SIXTY_SIGNS);
            return x;
        };
    }
}
