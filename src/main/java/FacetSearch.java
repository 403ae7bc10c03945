import java.util.Arrays;
import java.util.NoSuchElementException;

/**
 * Records found by their words, facets and spans of years.
 *
 * <p>All rows are made once, by the constructors; no call makes an object but an exception.
 */
public final class FacetSearch {
    public static final int NONE = -1;

    private static final int SIGNS = 60;
    private static final int RECORDS = 32;
    private static final int WORDS = 12;
    private static final int LETTERS = 10;
    private static final int FACETS = 4;
    private static final int VALUES = 16;
    private static final int ROLES = 8;
    private static final int TERMS = 8;
    private static final int LAST_YEAR = 9999;

    private static final int WORD_SCORES = 10;
    private static final int NEAR_WORD_SCORES = 6;
    private static final int LESS_FOR_EACH_CHANGE = 2;
    private static final int TOO_FAR = 3;
    private static final int VALUE_SCORES = 3;
    private static final int VALUE_UNDER_SCORES = 1;
    private static final int YEARS_SCORE = 2;

    private final Pad pad;
    private final Shelf shelf;
    private final Trees trees;
    private final Ruler ruler;
    private final Question question;
    private final Told told;
    private final Ranking alike;

    public FacetSearch() {
        pad = new Pad();
        shelf = new Shelf();
        trees = new Trees();
        ruler = new Ruler();
        question = new Question(pad);
        told = new Told();
        alike = new Ranking();
    }

    public int feed(int a, int b, int c, int d, int e)
            throws IllegalArgumentException, IllegalStateException {
        if (Pad.hasHighSign(a | b | c | d | e)) {
            throw new IllegalArgumentException("a sign is above 127");
        }
        int more = Pad.signsIn(a) + Pad.signsIn(b) + Pad.signsIn(c) + Pad.signsIn(d) + Pad.signsIn(e);
        if (pad.length + more > SIGNS) {
            throw new IllegalStateException("the pad would have more than 60 signs");
        }
        pad.append(a);
        pad.append(b);
        pad.append(c);
        pad.append(d);
        pad.append(e);
        return pad.length;
    }

    public int clear() {
        int had = pad.length;
        pad.length = 0;
        return had;
    }

    public int record() throws IllegalStateException {
        if (shelf.size >= RECORDS) {
            throw new IllegalStateException("there are 32 records");
        }
        shelf.size++;
        return shelf.size - 1;
    }

    public int word(int record)
            throws NoSuchElementException, IllegalArgumentException, IllegalStateException {
        requireRecord(record);
        long word = pad.lettersFrom(0);
        if (word == Words.NO_WORD || Words.lengthOf(word) != pad.length) {
            throw new IllegalArgumentException("the pad is no word");
        }
        if (!shelf.hasWord(record, word)) {
            if (shelf.wordCounts[record] >= WORDS) {
                throw new IllegalStateException("the record has twelve other words");
            }
            shelf.addWord(record, word);
        }
        pad.length = 0;
        return shelf.wordCounts[record];
    }

    public int facet(int record, int facet, int value) throws NoSuchElementException {
        requireRecord(record);
        requireFacet(facet);
        requireValueOrNone(value);
        int was = shelf.valueOf(record, facet);
        shelf.values[record * FACETS + facet] = value;
        return was;
    }

    public boolean parent(int facet, int value, int of) throws NoSuchElementException {
        requireFacet(facet);
        requireValue(value);
        requireValueOrNone(of);
        if (of == value || trees.isUnder(facet, of, value)) {
            return false;
        }
        trees.parents[facet * VALUES + value] = of;
        return true;
    }

    public void span(int record, int from, int to)
            throws NoSuchElementException, IllegalArgumentException {
        requireRecord(record);
        if (from < 0 || from > to || to > LAST_YEAR) {
            throw new IllegalArgumentException("no span of years within 0 .. 9999");
        }
        shelf.firstYears[record] = from;
        shelf.lastYears[record] = to;
    }

    public boolean right(int record, int role, boolean on) throws NoSuchElementException {
        requireRecord(record);
        requireRole(role);
        if (shelf.isSeenBy(record, role) == on) {
            return false;
        }
        shelf.roles[record] ^= 1 << role;
        return true;
    }

    public int ask(int role) throws NoSuchElementException {
        requireRole(role);
        int fault = question.read();
        if (fault != NONE) {
            return NONE - fault;
        }
        told.begin(question.size);
        for (int record = 0; record < shelf.size; record++) {
            if (shelf.isSeenBy(record, role)) {
                tellIfHit(record);
            }
        }
        pad.length = 0;
        return told.hits.size;
    }

    public int hit(int k, int what) throws NoSuchElementException {
        requireHit(k);
        if (what == 0) {
            return told.hits.records[k];
        }
        if (what == 1) {
            return told.hits.points[k];
        }
        throw new NoSuchElementException("a hit tells 0, its record, and 1, its score");
    }

    public int score(int k, int term) throws NoSuchElementException {
        requireHit(k);
        if (term < 0 || term >= told.terms) {
            throw new NoSuchElementException("no such term");
        }
        return told.termScores[told.hits.records[k] * TERMS + term];
    }

    public int counted(int facet, int value) throws NoSuchElementException {
        requireFacet(facet);
        requireValue(value);
        return told.valueCounts[facet * VALUES + value];
    }

    public int far(int a, int b) throws NoSuchElementException {
        requireRecord(a);
        requireRecord(b);
        if (shelf.wordCounts[a] == 0 || shelf.wordCounts[b] == 0) {
            return NONE;
        }
        // No two words are as far as this: the longer one's letters are all that can change.
        int nearest = LETTERS + 1;
        for (int n = 0; n < shelf.wordCounts[a] && nearest > 0; n++) {
            nearest = nearestBelow(shelf.wordOf(a, n), b, nearest);
        }
        return nearest;
    }

    public int like(int record, int k) throws NoSuchElementException {
        requireRecord(record);
        if (k < 0) {
            throw new NoSuchElementException("k is below 0");
        }
        alike.size = 0;
        for (int other = 0; other < shelf.size; other++) {
            int facts = other == record ? 0 : shelf.factsShared(record, other);
            if (facts > 0) {
                alike.put(other, facts);
            }
        }
        return k < alike.size ? alike.records[k] : NONE;
    }

    public int letter(int record, int n, int i) throws NoSuchElementException {
        requireRecord(record);
        if (n < 0 || n >= shelf.wordCounts[record]) {
            throw new NoSuchElementException("no such word");
        }
        long word = shelf.wordOf(record, n);
        int length = Words.lengthOf(word);
        if (i < -1 || i >= length) {
            throw new NoSuchElementException("no such sign");
        }
        return i == -1 ? length : Words.letterOf(word, i);
    }

    public int count(int what) throws IllegalArgumentException {
        switch (what) {
            case 0:
                return pad.length;
            case 1:
                return shelf.size;
            case 2:
                return shelf.allWords;
            case 3:
                return shelf.differentWords;
            case 4:
                return told.hits.size;
            case 5:
                return told.terms;
            default:
                throw new IllegalArgumentException("nothing that is counted");
        }
    }

    private void requireRecord(int record) {
        if (record < 0 || record >= shelf.size) {
            throw new NoSuchElementException("no such record");
        }
    }

    private void requireHit(int k) {
        if (k < 0 || k >= told.hits.size) {
            throw new NoSuchElementException("no such hit");
        }
    }

    private static void requireFacet(int facet) {
        if (facet < 0 || facet >= FACETS) {
            throw new NoSuchElementException("no such facet");
        }
    }

    private static void requireValue(int value) {
        if (value < 0 || value >= VALUES) {
            throw new NoSuchElementException("no such value");
        }
    }

    private static void requireValueOrNone(int value) {
        if (value != NONE) {
            requireValue(value);
        }
    }

    private static void requireRole(int role) {
        if (role < 0 || role >= ROLES) {
            throw new NoSuchElementException("no such role");
        }
    }

    private void tellIfHit(int record) {
        int sum = 0;
        for (int term = 0; term < question.size; term++) {
            int scored = termScore(record, term);
            if (scored == 0) {
                return;
            }
            told.termScores[record * TERMS + term] = scored;
            sum += scored;
        }
        told.hits.put(record, sum);
        for (int facet = 0; facet < FACETS; facet++) {
            trees.countWithAllAbove(facet, shelf.valueOf(record, facet), told.valueCounts);
        }
    }

    /** What a term scores for a record: 0 where it does not hold, as each that holds scores. */
    private int termScore(int record, int term) {
        switch (question.kinds[term]) {
            case Question.WORD:
                return shelf.hasWord(record, question.words[term]) ? WORD_SCORES : 0;
            case Question.NEAR_WORD:
                // A nearest word that is TOO_FAR leaves 0: the term does not hold.
                return NEAR_WORD_SCORES
                        - LESS_FOR_EACH_CHANGE * nearestBelow(question.words[term], record, TOO_FAR);
            case Question.VALUE:
                return valueScore(record, question.first[term], question.second[term]);
            default:
                return shelf.hasYearWithin(record, question.first[term], question.second[term])
                        ? YEARS_SCORE : 0;
        }
    }

    private int valueScore(int record, int facet, int asked) {
        int value = shelf.valueOf(record, facet);
        if (value == asked) {
            return VALUE_SCORES;
        }
        return trees.isUnder(facet, value, asked) ? VALUE_UNDER_SCORES : 0;
    }

    /** How far the record's nearest word is from a word, or the limit where none is below it. */
    private int nearestBelow(long word, int record, int limit) {
        int nearest = limit;
        for (int n = 0; n < shelf.wordCounts[record] && nearest > 0; n++) {
            nearest = ruler.apartBelow(word, shelf.wordOf(record, n), nearest);
        }
        return nearest;
    }

    /**
     * A word is one number: five bits for each of ten letters (a = 1), the first letter's the
     * highest, 0 behind the last. So the order of the numbers is the order of words.
     */
    private static final class Words {
        static final long NO_WORD = 0L;
        private static final int BITS = 5;
        private static final int MASK = 31;
        private static final int BELOW_A = 'a' - 1;

        static int lengthOf(long word) {
            int length = 0;
            while (length < LETTERS && codeAt(word, length) != 0) {
                length++;
            }
            return length;
        }

        static int letterOf(long word, int place) {
            return codeAt(word, place) + BELOW_A;
        }

        static long withLetter(long word, int place, int letter) {
            return word | (long) (letter - BELOW_A) << BITS * (LETTERS - 1 - place);
        }

        /** The five bits of the letter at a place below ten, 0 where there is none. */
        static int codeAt(long word, int place) {
            return (int) (word >> BITS * (LETTERS - 1 - place)) & MASK;
        }
    }

    /** The pad: signs, with A .. Z kept as a .. z. */
    private static final class Pad {
        /** What stands behind the last sign; no sign is 0. */
        static final int END = 0;
        private static final int HIGH_SIGNS = 0x80808080;

        final int[] signs = new int[SIGNS];
        int length = 0;

        static boolean hasHighSign(int four) {
            return (four & HIGH_SIGNS) != 0;
        }

        static int signsIn(int four) {
            int signs = 0;
            for (int shift = 0; shift < 32; shift += 8) {
                if ((four >> shift & 255) != 0) {
                    signs++;
                }
            }
            return signs;
        }

        void append(int four) {
            for (int shift = 0; shift < 32; shift += 8) {
                int sign = four >> shift & 255;
                if (sign != 0 && length < SIGNS) {
                    signs[length] = sign >= 'A' && sign <= 'Z' ? sign - 'A' + 'a' : sign;
                    length++;
                }
            }
        }

        int signAt(int place) {
            return place >= 0 && place < length ? signs[place] : END;
        }

        /** The letters from a place on, ten at most, as a word; NO_WORD where there is none. */
        long lettersFrom(int place) {
            long word = Words.NO_WORD;
            for (int i = 0; i < LETTERS; i++) {
                int sign = signAt(place + i);
                if (sign < 'a' || sign > 'z') {
                    return word;
                }
                word = Words.withLetter(word, i, sign);
            }
            return word;
        }
    }

    /** The records: their words in order, values, spans, and roles (a bit each). */
    private static final class Shelf {
        private static final int ALL_ROLES = (1 << ROLES) - 1;

        final long[] words = new long[RECORDS * WORDS];
        final int[] wordCounts = new int[RECORDS];
        final int[] values = new int[RECORDS * FACETS];
        /** NONE where a record has no span. */
        final int[] firstYears = new int[RECORDS];
        final int[] lastYears = new int[RECORDS];
        final int[] roles = new int[RECORDS];
        int size = 0;
        int allWords = 0;
        int differentWords = 0;

        Shelf() {
            Arrays.fill(values, NONE);
            Arrays.fill(firstYears, NONE);
            Arrays.fill(roles, ALL_ROLES);
        }

        long wordOf(int record, int n) {
            return words[record * WORDS + n];
        }

        int valueOf(int record, int facet) {
            return values[record * FACETS + facet];
        }

        boolean isSeenBy(int record, int role) {
            return (roles[record] >> role & 1) != 0;
        }

        boolean hasWord(int record, long word) {
            for (int n = 0; n < wordCounts[record]; n++) {
                if (wordOf(record, n) == word) {
                    return true;
                }
            }
            return false;
        }

        /** Adds a word that the record has not yet, where it has room for one. */
        void addWord(int record, long word) {
            if (wordCounts[record] >= WORDS) {
                return;
            }
            if (!isKnown(word)) {
                differentWords++;
            }
            int start = record * WORDS;
            int place = start + wordCounts[record];
            while (place > start && words[place - 1] > word) {
                words[place] = words[place - 1];
                place--;
            }
            words[place] = word;
            wordCounts[record]++;
            allWords++;
        }

        private boolean isKnown(long word) {
            for (int record = 0; record < size; record++) {
                if (hasWord(record, word)) {
                    return true;
                }
            }
            return false;
        }

        /** Holds for no record where the last year is less than the first. */
        boolean hasYearWithin(int record, int first, int last) {
            return firstYears[record] != NONE
                    && Math.max(firstYears[record], first) <= Math.min(lastYears[record], last);
        }

        int factsShared(int record, int other) {
            int facts = 0;
            for (int n = 0; n < wordCounts[record]; n++) {
                if (hasWord(other, wordOf(record, n))) {
                    facts++;
                }
            }
            for (int facet = 0; facet < FACETS; facet++) {
                int value = valueOf(record, facet);
                if (value != NONE && value == valueOf(other, facet)) {
                    facts++;
                }
            }
            return facts;
        }
    }

    /** The trees of the facets' values. No value is ever under itself, so each way up ends. */
    private static final class Trees {
        final int[] parents = new int[FACETS * VALUES];

        Trees() {
            Arrays.fill(parents, NONE);
        }

        private int parentOf(int facet, int value) {
            return value == NONE ? NONE : parents[facet * VALUES + value];
        }

        boolean isUnder(int facet, int value, int top) {
            int above = parentOf(facet, value);
            for (int steps = 0; steps < VALUES && above != NONE; steps++) {
                if (above == top) {
                    return true;
                }
                above = parentOf(facet, above);
            }
            return false;
        }

        /** Adds one for a value and for each that it is under; nothing for NONE. */
        void countWithAllAbove(int facet, int value, int[] counts) {
            int each = value;
            for (int steps = 0; steps < VALUES && each != NONE; steps++) {
                counts[facet * VALUES + each]++;
                each = parentOf(facet, each);
            }
        }
    }

    /** Measures how far two words are, in rows that it uses again. */
    private static final class Ruler {
        private final int[] one = new int[LETTERS];
        private final int[] two = new int[LETTERS];
        private final int[] row = new int[LETTERS + 1];

        /** How far two words are from one another, or the limit where that is not below it. */
        int apartBelow(long a, long b, int limit) {
            int lengthOne = spell(a, one);
            int lengthTwo = spell(b, two);
            if (Math.abs(lengthOne - lengthTwo) >= limit) {
                return limit;
            }
            for (int j = 0; j <= lengthTwo; j++) {
                row[j] = j;
            }
            for (int i = 0; i < lengthOne; i++) {
                if (nextRow(i, lengthTwo) >= limit) {
                    return limit;
                }
            }
            return Math.min(row[lengthTwo], limit);
        }

        /** Lays a word's letters out in a row of ten; answers how many there are. */
        private static int spell(long word, int[] letters) {
            int length = 0;
            for (int i = 0; i < LETTERS; i++) {
                letters[i] = Words.codeAt(word, i);
                if (letters[i] != 0) {
                    length++;
                }
            }
            return length;
        }

        /**
         * The row tells how far the beginning of word one is from each beginning of word two; it
         * becomes that of a beginning with letter i too. Answers its least entry: no later row
         * has a lesser one.
         */
        private int nextRow(int i, int lengthTwo) {
            int corner = row[0];
            row[0] = i + 1;
            int least = row[0];
            for (int j = 0; j < lengthTwo; j++) {
                int changed = one[i] == two[j] ? corner : corner + 1;
                int leftOutOrPutIn = Math.min(row[j], row[j + 1]) + 1;
                corner = row[j + 1];
                row[j + 1] = Math.min(changed, leftOutOrPutIn);
                least = Math.min(least, row[j + 1]);
            }
            return least;
        }
    }

    /** The terms of a question, read from the pad. */
    private static final class Question {
        static final int WORD = 0;
        static final int NEAR_WORD = 1;
        static final int VALUE = 2;
        static final int YEARS = 3;

        private static final int VALUE_DIGITS = 2;
        private static final int YEAR_DIGITS = 4;

        final int[] kinds = new int[TERMS];
        final long[] words = new long[TERMS];
        /** A term's facet, or its first year. */
        final int[] first = new int[TERMS];
        /** A term's value, or its last year. */
        final int[] second = new int[TERMS];
        int size = 0;

        private final Pad pad;
        /** The place of the sign to be read next; a term that fails leaves it where it failed. */
        private int at = 0;

        Question(Pad pad) {
            this.pad = pad;
        }

        /** NONE, or the place at which the pad is no beginning of a question. */
        int read() {
            at = 0;
            size = 0;
            skipSpaces();
            while (size < TERMS && at < pad.length) {
                if (!readTerm(size) || !isBehindTerm()) {
                    return at;
                }
                size++;
                skipSpaces();
            }
            return at < pad.length ? at : NONE;
        }

        private void skipSpaces() {
            while (at < pad.length && pad.signAt(at) == ' ') {
                at++;
            }
        }

        private boolean isBehindTerm() {
            int sign = pad.signAt(at);
            return sign == ' ' || sign == Pad.END;
        }

        private boolean readTerm(int term) {
            int sign = pad.signAt(at);
            if (sign == '@') {
                return readYears(term);
            }
            if (sign >= '0' && sign < '0' + FACETS) {
                return readValue(term);
            }
            return readWord(term);
        }

        private boolean readWord(int term) {
            words[term] = pad.lettersFrom(at);
            at += Words.lengthOf(words[term]);
            if (words[term] == Words.NO_WORD) {
                return false;
            }
            kinds[term] = take('~') ? NEAR_WORD : WORD;
            return true;
        }

        private boolean readValue(int term) {
            kinds[term] = VALUE;
            first[term] = pad.signAt(at) - '0';
            at++;
            if (!take(':')) {
                return false;
            }
            second[term] = readNumber(VALUE_DIGITS, VALUES - 1);
            return second[term] != NONE;
        }

        private boolean readYears(int term) {
            kinds[term] = YEARS;
            at++;
            first[term] = readNumber(YEAR_DIGITS, LAST_YEAR);
            if (first[term] == NONE || !take('-')) {
                return false;
            }
            second[term] = readNumber(YEAR_DIGITS, LAST_YEAR);
            return second[term] != NONE;
        }

        private boolean take(int sign) {
            if (pad.signAt(at) != sign) {
                return false;
            }
            at++;
            return true;
        }

        /** The number of as many digits as are allowed and keep it within most; NONE for none. */
        private int readNumber(int digits, int most) {
            int number = NONE;
            for (int n = 0; n < digits; n++) {
                int digit = pad.signAt(at) - '0';
                int longer = number == NONE ? digit : number * 10 + digit;
                if (digit < 0 || digit > 9 || longer > most) {
                    return number;
                }
                number = longer;
                at++;
            }
            return number;
        }
    }

    /** Records by points, the most first, of equal ones in the order in which they were put. */
    private static final class Ranking {
        final int[] records = new int[RECORDS];
        final int[] points = new int[RECORDS];
        int size = 0;

        void put(int record, int scored) {
            if (size >= RECORDS) {
                return;
            }
            int place = size;
            while (place > 0 && points[place - 1] < scored) {
                records[place] = records[place - 1];
                points[place] = points[place - 1];
                place--;
            }
            records[place] = record;
            points[place] = scored;
            size++;
        }
    }

    /** What the latest question was told, as it was then: later changes of records do not show. */
    private static final class Told {
        final Ranking hits = new Ranking();
        /** By record, not by place among the hits: the places are known only in the end. */
        final int[] termScores = new int[RECORDS * TERMS];
        final int[] valueCounts = new int[FACETS * VALUES];
        int terms = 0;

        void begin(int termsAsked) {
            terms = termsAsked;
            hits.size = 0;
            Arrays.fill(valueCounts, 0);
        }
    }
}
