/**
 * "Such a call changes nothing": the answers that show the state are the same behind a refused
 * call as ahead of it.
 *
 * <p>Some answers can be had without a change: these are taken ahead of the call and behind it.
 * Others (the pad's signs, values, trees, spans, roles) can only be had by calls that change
 * things: these are taken of two objects made alike, of which one had the refused call.
 */
final class Refusals extends Checks {
    private static final int MOST_WORDS = 13;
    private static final String YEARS = "0 1 4 5 6 7 9 10 11 19 20 21 9998 9999";

    interface Trial {
        Object on(Search x);
    }

    private interface View {
        String of(Search x);
    }

    private static final View[] LOOKS = {
        Refusals::counts, Refusals::hits, Refusals::valueCounts, Refusals::words, Refusals::neighbours,
    };
    private static final View[] PROBES = {
        Refusals::padAsWord, Refusals::padAsQuestion, Refusals::values, Refusals::roles, Refusals::spans,
        x -> tree(x, 0), x -> tree(x, 1), x -> tree(x, 2), x -> tree(x, 3),
    };

    private Refusals() {
    }

    /** A call is answered as due, again if it is made again, and changes nothing. */
    static void changesNothing(String what, Scenes.Maker maker, String answer, Trial refused) {
        for (int i = 0; i < LOOKS.length; i++) {
            Search x = maker.make();
            String ahead = LOOKS[i].of(x);
            dueOf(what, answer, () -> refused.on(x));
            due(what + ", look " + i, LOOKS[i].of(x), ahead);
            dueOf(what + ", again", answer, () -> refused.on(x));
        }
        for (int i = 0; i < PROBES.length; i++) {
            Search untouched = maker.make();
            Search tried = maker.make();
            answerOf(() -> refused.on(tried));
            due(what + ", probe " + i, PROBES[i].of(tried), PROBES[i].of(untouched));
        }
    }

    // --- answers that change nothing

    private static String counts(Search x) {
        StringBuilder all = new StringBuilder();
        for (int what = 0; what <= 5; what++) {
            all.append(x.count(what)).append(' ');
        }
        return all.toString();
    }

    private static String hits(Search x) {
        StringBuilder all = new StringBuilder();
        int terms = x.count(5);
        int hits = x.count(4);
        for (int k = 0; k < hits; k++) {
            all.append(x.hit(k, 0)).append(':').append(x.hit(k, 1));
            for (int term = 0; term < terms; term++) {
                all.append(term == 0 ? '=' : '+').append(x.score(k, term));
            }
            all.append(' ');
        }
        return all.toString();
    }

    private static String valueCounts(Search x) {
        StringBuilder all = new StringBuilder();
        for (int facet = 0; facet < 4; facet++) {
            for (int value = 0; value < 16; value++) {
                all.append(x.counted(facet, value)).append(' ');
            }
        }
        return all.toString();
    }

    private static String words(Search x) {
        StringBuilder all = new StringBuilder();
        int records = x.count(1);
        for (int record = 0; record < records; record++) {
            all.append(wordsOf(x, record)).append("; ");
        }
        return all.toString();
    }

    private static String wordsOf(Search x, int record) {
        StringBuilder all = new StringBuilder();
        for (int n = 0; n < MOST_WORDS; n++) {
            int at = n;
            String word = answerOf(() -> x.wordOf(record, at));
            if (word.equals(NO_SUCH)) {
                break;
            }
            all.append(word).append(' ');
        }
        return all.toString();
    }

    private static String neighbours(Search x) {
        StringBuilder all = new StringBuilder();
        int records = x.count(1);
        for (int record = 0; record < records; record++) {
            all.append(x.far(0, record)).append(' ').append(x.like(record, 0)).append(' ');
        }
        return all.toString();
    }

    // --- answers that change things

    private static String padAsWord(Search x) {
        int last = x.count(1) - 1;
        return x.count(0) + " " + answerOf(() -> x.word(last)) + " " + x.count(0) + " " + counts(x) + wordsOf(x, last);
    }

    private static String padAsQuestion(Search x) {
        return x.count(0) + " " + answerOf(() -> x.ask(Scenes.SEES_ALL)) + " " + counts(x) + hits(x);
    }

    private static String values(Search x) {
        StringBuilder all = new StringBuilder();
        int records = x.count(1);
        for (int record = 0; record < records; record++) {
            for (int facet = 0; facet < 4; facet++) {
                all.append(x.facet(record, facet, NONE)).append(' ');
            }
        }
        return all.toString();
    }

    private static String roles(Search x) {
        StringBuilder all = new StringBuilder();
        int records = x.count(1);
        for (int record = 0; record < records; record++) {
            for (int role = 0; role < 8; role++) {
                all.append(x.right(record, role, true) ? '-' : '+');
            }
        }
        return all.toString();
    }

    private static String spans(Search x) {
        StringBuilder all = new StringBuilder();
        for (String year : YEARS.split(" ")) {
            x.ask(Scenes.SEES_ALL, "@" + year + "-" + year);
            all.append(year).append(": ").append(x.hits()).append("; ");
        }
        return all.toString();
    }

    /** Which values each value of a facet is under, shown by a record that has it. */
    private static String tree(Search x, int facet) {
        StringBuilder all = new StringBuilder();
        x.clear();
        int records = x.count(1);
        for (int record = 0; record < records; record++) {
            x.facet(record, facet, NONE);
        }
        for (int value = 0; value < 16; value++) {
            x.facet(0, facet, value);
            x.ask(Scenes.SEES_ALL);
            for (int above = 0; above < 16; above++) {
                all.append(x.counted(facet, above));
            }
            all.append(' ');
        }
        return all.toString();
    }
}
