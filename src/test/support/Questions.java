/** Whether a text is a question, and where it is none. */
final class Questions extends Checks {
    private Questions() {
    }

    static String repeated(String text, int times) {
        return text.repeat(Math.max(times, 0));
    }

    /** The text is a question of so many terms, and the pad is empty behind it. */
    static void isOne(String text, int terms) {
        Search x = Search.withRecords(2);
        x.put(text);
        boolean asked = x.ask(0) >= 0;
        due("'" + text + "' is a question", asked, true);
        due("terms of '" + text + "'", x.count(5), terms);
        due("signs of the pad behind '" + text + "'", x.count(0), 0);
    }

    /** The text is no question from a place on; the pad stays behind it, and what was told. */
    static void isNone(String text, int place) {
        Search x = Search.withRecords(2);
        x.word(1, "told");
        x.ask(0, "told");
        x.record();
        x.put(text);
        due("'" + text + "'", x.ask(0), NONE - place);
        due("signs of the pad behind '" + text + "'", x.count(0), text.length());
        due("hits behind '" + text + "'", x.count(4), 1);
        due("terms behind '" + text + "'", x.count(5), 1);
        due("the hit behind '" + text + "'", x.hit(0, 0), 1);
        due("its score behind '" + text + "'", x.hit(0, 1), 10);
        due("'" + text + "' again", x.ask(0), NONE - place);
    }
}
