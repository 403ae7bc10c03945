import java.util.ArrayList;
import java.util.List;
import java.util.NoSuchElementException;
import java.util.Random;
import java.util.Set;
import java.util.TreeSet;
import java.util.regex.Matcher;
import java.util.regex.Pattern;

/**
 * Long runs of calls, made up from fixed seeds, against a second program that is written from the
 * document with the Java library: every answer, and every exception by its exact class (so that
 * one thrown by the Java machine shows).
 */
public final class ModelTest {
    private static final int RUNS = 2000;
    private static final int CALLS = 512;

    public static void main(String[] args) {
        for (int seed = 1; seed <= RUNS; seed++) {
            new ModelTest(seed).run();
        }
        System.out.println(RUNS + " runs are as the model's");
    }

    private interface Call {
        long answer();
    }

    // --- the model

    private static final String NUMBER = "[0-9]{1,4}";
    private static final String TERM = "([a-z]{1,10}~?|[0-3]:(0?[0-9]|1[0-5])|@" + NUMBER + "-" + NUMBER + ")";
    private static final Pattern QUESTION = Pattern.compile(" *(" + TERM + "( +" + TERM + "){0,7} *)?");

    private static final class Item {
        final TreeSet<String> words = new TreeSet<>();
        final int[] values = {-1, -1, -1, -1};
        int[] span = null;
        final Set<Integer> roles = new TreeSet<>(List.of(0, 1, 2, 3, 4, 5, 6, 7));
    }

    private static final class Hit {
        int record;
        int sum;
        final List<Integer> scores = new ArrayList<>();
    }

    private static final class Model {
        String pad = "";
        final List<Item> items = new ArrayList<>();
        final int[][] parents = new int[4][16];
        List<Hit> hits = new ArrayList<>();
        int[][] counts = new int[4][16];
        int terms = 0;

        Model() {
            for (int[] row : parents) {
                java.util.Arrays.fill(row, -1);
            }
        }

        Item item(int record) {
            need(record >= 0 && record < items.size());
            return items.get(record);
        }

        static void need(boolean there) {
            if (!there) {
                throw new NoSuchElementException();
            }
        }

        static void needIn(int number, int least, int most) {
            need(number >= least && number <= most);
        }

        int feed(int... fours) {
            StringBuilder more = new StringBuilder();
            for (int four : fours) {
                for (int i = 0; i < 4; i++) {
                    int sign = four >>> 8 * i & 0xff;
                    if (sign > 127) {
                        throw new IllegalArgumentException();
                    }
                    if (sign != 0) {
                        more.append((char) sign);
                    }
                }
            }
            if (pad.length() + more.length() > 60) {
                throw new IllegalStateException();
            }
            pad += more.toString().toLowerCase(java.util.Locale.ROOT);
            return pad.length();
        }

        int clear() {
            int had = pad.length();
            pad = "";
            return had;
        }

        int record() {
            if (items.size() == 32) {
                throw new IllegalStateException();
            }
            items.add(new Item());
            return items.size() - 1;
        }

        int word(int record) {
            Item item = item(record);
            if (!pad.matches("[a-z]{1,10}")) {
                throw new IllegalArgumentException();
            }
            if (item.words.size() == 12 && !item.words.contains(pad)) {
                throw new IllegalStateException();
            }
            item.words.add(pad);
            pad = "";
            return item.words.size();
        }

        int facet(int record, int facet, int value) {
            Item item = item(record);
            needIn(facet, 0, 3);
            needIn(value, -1, 15);
            int was = item.values[facet];
            item.values[facet] = value;
            return was;
        }

        boolean under(int facet, int value, int top) {
            int above = value == -1 ? -1 : parents[facet][value];
            return above != -1 && (above == top || under(facet, above, top));
        }

        boolean parent(int facet, int value, int of) {
            needIn(facet, 0, 3);
            needIn(value, 0, 15);
            needIn(of, -1, 15);
            if (of == value || under(facet, of, value)) {
                return false;
            }
            parents[facet][value] = of;
            return true;
        }

        void span(int record, int from, int to) {
            Item item = item(record);
            if (from > to || from < 0 || from > 9999 || to < 0 || to > 9999) {
                throw new IllegalArgumentException();
            }
            item.span = new int[] {from, to};
        }

        boolean right(int record, int role, boolean on) {
            Item item = item(record);
            needIn(role, 0, 7);
            return on ? item.roles.add(role) : item.roles.remove(role);
        }

        int ask(int role) {
            needIn(role, 0, 7);
            for (int length = 0; length <= pad.length(); length++) {
                Matcher matcher = QUESTION.matcher(pad.substring(0, length));
                if (!matcher.matches() && !matcher.hitEnd()) {
                    return -1 - (length - 1);
                }
            }
            if (!QUESTION.matcher(pad).matches()) {
                return -1 - pad.length();
            }
            String[] asked = pad.trim().isEmpty() ? new String[0] : pad.trim().split(" +");
            terms = asked.length;
            hits = new ArrayList<>();
            counts = new int[4][16];
            for (int record = 0; record < items.size(); record++) {
                if (items.get(record).roles.contains(role)) {
                    tell(record, asked);
                }
            }
            hits.sort((a, b) -> a.sum != b.sum ? b.sum - a.sum : a.record - b.record);
            pad = "";
            return hits.size();
        }

        void tell(int record, String[] asked) {
            Item item = items.get(record);
            Hit hit = new Hit();
            hit.record = record;
            for (String term : asked) {
                int scored = scoreOf(item, term);
                if (scored == 0) {
                    return;
                }
                hit.scores.add(scored);
                hit.sum += scored;
            }
            hits.add(hit);
            for (int facet = 0; facet < 4; facet++) {
                for (int value = 0; value < 16; value++) {
                    if (item.values[facet] == value || under(facet, item.values[facet], value)) {
                        counts[facet][value]++;
                    }
                }
            }
        }

        int scoreOf(Item item, String term) {
            if (term.startsWith("@")) {
                String[] ends = term.substring(1).split("-");
                for (int year = Integer.parseInt(ends[0]); year <= Integer.parseInt(ends[1]); year++) {
                    if (item.span != null && item.span[0] <= year && year <= item.span[1]) {
                        return 2;
                    }
                }
                return 0;
            }
            if (term.indexOf(':') == 1) {
                int facet = term.charAt(0) - '0';
                int value = Integer.parseInt(term.substring(2));
                return item.values[facet] == value ? 3 : under(facet, item.values[facet], value) ? 1 : 0;
            }
            if (!term.endsWith("~")) {
                return item.words.contains(term) ? 10 : 0;
            }
            int nearest = 3;
            for (String word : item.words) {
                nearest = Math.min(nearest, apart(word, term.substring(0, term.length() - 1)));
            }
            return 6 - 2 * nearest;
        }

        static int apart(String a, String b) {
            int[][] far = new int[a.length() + 1][b.length() + 1];
            for (int i = 0; i <= a.length(); i++) {
                for (int j = 0; j <= b.length(); j++) {
                    int least = i == 0 && j == 0 ? 0 : Integer.MAX_VALUE;
                    if (i > 0) {
                        least = Math.min(least, far[i - 1][j] + 1);
                    }
                    if (j > 0) {
                        least = Math.min(least, far[i][j - 1] + 1);
                    }
                    if (i > 0 && j > 0) {
                        least = Math.min(least, far[i - 1][j - 1] + (a.charAt(i - 1) == b.charAt(j - 1) ? 0 : 1));
                    }
                    far[i][j] = least;
                }
            }
            return far[a.length()][b.length()];
        }

        Hit told(int k) {
            need(k >= 0 && k < hits.size());
            return hits.get(k);
        }

        int hit(int k, int what) {
            Hit hit = told(k);
            needIn(what, 0, 1);
            return what == 0 ? hit.record : hit.sum;
        }

        int score(int k, int term) {
            Hit hit = told(k);
            need(term >= 0 && term < terms);
            return hit.scores.get(term);
        }

        int counted(int facet, int value) {
            needIn(facet, 0, 3);
            needIn(value, 0, 15);
            return counts[facet][value];
        }

        int far(int a, int b) {
            int nearest = Integer.MAX_VALUE;
            Item first = item(a);
            for (String other : item(b).words) {
                for (String word : first.words) {
                    nearest = Math.min(nearest, apart(word, other));
                }
            }
            return nearest == Integer.MAX_VALUE ? -1 : nearest;
        }

        int like(int record, int k) {
            Item item = item(record);
            need(k >= 0);
            List<int[]> others = new ArrayList<>();
            for (int other = 0; other < items.size(); other++) {
                Set<String> common = new TreeSet<>(item.words);
                common.retainAll(items.get(other).words);
                int facts = common.size();
                for (int facet = 0; facet < 4; facet++) {
                    int value = item.values[facet];
                    facts += value != -1 && items.get(other).values[facet] == value ? 1 : 0;
                }
                if (facts > 0 && other != record) {
                    others.add(new int[] {other, facts});
                }
            }
            others.sort((a, b) -> a[1] != b[1] ? b[1] - a[1] : a[0] - b[0]);
            return k < others.size() ? others.get(k)[0] : -1;
        }

        int letter(int record, int n, int i) {
            List<String> words = new ArrayList<>(item(record).words);
            need(n >= 0 && n < words.size());
            String word = words.get(n);
            needIn(i, -1, word.length() - 1);
            return i == -1 ? word.length() : word.charAt(i);
        }

        int count(int what) {
            Set<String> different = new TreeSet<>();
            int all = 0;
            for (Item item : items) {
                different.addAll(item.words);
                all += item.words.size();
            }
            int[] counts = {pad.length(), items.size(), all, different.size(), hits.size(), terms};
            if (what < 0 || what > 5) {
                throw new IllegalArgumentException();
            }
            return counts[what];
        }
    }

    // --- the runs

    private final int seed;
    private final Random random;
    private final FacetSearch x = new FacetSearch();
    private final Model model = new Model();
    private final List<String> log = new ArrayList<>();
    private final int letters;
    private final int longest;

    private ModelTest(int seed) {
        this.seed = seed;
        random = new Random(seed);
        letters = 1 + random.nextInt(seed % 5 == 0 ? 26 : 4);
        longest = 1 + random.nextInt(seed % 3 == 0 ? 11 : 5);
    }

    private void run() {
        while (log.size() < CALLS) {
            step();
        }
    }

    private void step() {
        int kind = random.nextInt(100);
        if (kind < 8) {
            both("record()", x::record, model::record);
        } else if (kind < 26) {
            addWord();
        } else if (kind < 34) {
            int r = record(), f = within(4), v = within(16, -1);
            both("facet(" + r + ", " + f + ", " + v + ")", () -> x.facet(r, f, v), () -> model.facet(r, f, v));
        } else if (kind < 39) {
            int f = within(4), v = within(16), of = within(16, -1);
            both("parent(" + f + ", " + v + ", " + of + ")", () -> x.parent(f, v, of) ? 1 : 0, () -> model.parent(f, v, of) ? 1 : 0);
        } else if (kind < 43) {
            addSpan();
        } else if (kind < 46) {
            int r = record(), role = within(8);
            boolean on = random.nextInt(3) == 0;
            both("right(" + r + ", " + role + ", " + on + ")", () -> x.right(r, role, on) ? 1 : 0, () -> model.right(r, role, on) ? 1 : 0);
        } else if (kind < 64) {
            ask();
        } else {
            look();
        }
    }

    private void addWord() {
        if (random.nextInt(4) != 0) {
            both("clear()", x::clear, model::clear);
        }
        feed(word());
        int r = record();
        both("word(" + r + ")", () -> x.word(r), () -> model.word(r));
    }

    private void addSpan() {
        int r = record();
        int from = random.nextInt(20) == 0 ? within(10000) : random.nextInt(30);
        int to = from + random.nextInt(12) - 1;
        both("span(" + r + ", " + from + ", " + to + ")", () -> spanned(() -> x.span(r, from, to)), () -> spanned(() -> model.span(r, from, to)));
    }

    private static long spanned(Runnable span) {
        span.run();
        return 0;
    }

    private void ask() {
        if (random.nextInt(4) != 0) {
            both("clear()", x::clear, model::clear);
        }
        StringBuilder text = new StringBuilder();
        int terms = random.nextInt(3) == 0 ? random.nextInt(11) : random.nextInt(4);
        for (int i = 0; i < terms; i++) {
            text.append(i > 0 || random.nextInt(4) == 0 ? " " : "").append(term());
        }
        if (random.nextInt(6) == 0 && text.length() > 0) {
            int place = random.nextInt(text.length());
            String odd = " ~:@-09az/;`{\u0001\u007f5?A";
            text.insert(place, odd.charAt(random.nextInt(odd.length())));
        }
        if (random.nextInt(12) == 0) {
            text.setLength(random.nextInt(text.length() + 1));
        }
        feed(text.toString());
        int role = within(8);
        both("ask(" + role + ")", () -> x.ask(role), () -> model.ask(role));
        for (int i = 0; i < 3; i++) {
            look();
        }
    }

    private String term() {
        int kind = random.nextInt(10);
        if (kind < 2) {
            return word();
        }
        if (kind < 6) {
            return word() + "~";
        }
        if (kind < 8) {
            return random.nextInt(4) + ":" + random.nextInt(random.nextInt(8) == 0 ? 30 : 16);
        }
        int from = random.nextInt(random.nextInt(8) == 0 ? 20000 : 30);
        return "@" + from + "-" + (from + random.nextInt(15) - 2);
    }

    private void look() {
        int k = random.nextInt(10) == 0 ? within(33) : within(Math.max(1, model.hits.size()));
        int r = record();
        switch (random.nextInt(8)) {
            case 0: {
                int what = within(2);
                both("hit(" + k + ", " + what + ")", () -> x.hit(k, what), () -> model.hit(k, what));
                break;
            }
            case 1: {
                int term = within(Math.max(1, model.terms));
                both("score(" + k + ", " + term + ")", () -> x.score(k, term), () -> model.score(k, term));
                break;
            }
            case 2: {
                int f = within(4), v = within(16);
                both("counted(" + f + ", " + v + ")", () -> x.counted(f, v), () -> model.counted(f, v));
                break;
            }
            case 3: {
                int b = record();
                both("far(" + r + ", " + b + ")", () -> x.far(r, b), () -> model.far(r, b));
                break;
            }
            case 4: {
                int place = within(6);
                both("like(" + r + ", " + place + ")", () -> x.like(r, place), () -> model.like(r, place));
                break;
            }
            case 5: {
                int n = within(12), i = within(10, -1);
                both("letter(" + r + ", " + n + ", " + i + ")", () -> x.letter(r, n, i), () -> model.letter(r, n, i));
                break;
            }
            case 6: {
                int n = within(4), i = within(3, -1);
                both("letter(" + r + ", " + n + ", " + i + ")", () -> x.letter(r, n, i), () -> model.letter(r, n, i));
                break;
            }
            default: {
                int what = within(6);
                both("count(" + what + ")", () -> x.count(what), () -> model.count(what));
            }
        }
    }

    private void feed(String text) {
        for (int from = 0; from < text.length() || from == 0; from += 20) {
            int[] fours = new int[5];
            int sign = from;
            for (int place = 0; place < 20 && sign < Math.min(text.length(), from + 20); place++) {
                // A sign may be left 0 here and there, as long as the rest still finds its place.
                if (text.length() - from > 10 || random.nextInt(4) != 0) {
                    fours[place / 4] |= text.charAt(sign) << place % 4 * 8;
                    sign++;
                }
            }
            if (random.nextInt(100) == 0) {
                fours[random.nextInt(5)] |= 128 << random.nextInt(4) * 8;
            }
            both("feed of '" + text + "'", () -> x.feed(fours[0], fours[1], fours[2], fours[3], fours[4]), () -> model.feed(fours));
        }
    }

    private String word() {
        int length = 1 + random.nextInt(longest);
        StringBuilder word = new StringBuilder();
        for (int i = 0; i < length; i++) {
            word.append((char) ((random.nextInt(9) == 0 ? 'A' : 'a') + random.nextInt(letters)));
        }
        return word.toString();
    }

    private int record() {
        return within(Math.max(1, model.items.size()));
    }

    private int within(int size) {
        return within(size, 0);
    }

    private int within(int size, int least) {
        int[] odd = {-1, -2, size, size + 1, Integer.MIN_VALUE, Integer.MAX_VALUE};
        return random.nextInt(40) == 0 ? odd[random.nextInt(odd.length)] : least + random.nextInt(size - least);
    }

    private static String told(Call call) {
        try {
            return "" + call.answer();
        } catch (RuntimeException e) {
            return "throws." + e.getClass().getName();
        }
    }

    private void both(String what, Call call, Call due) {
        if (log.size() >= CALLS) {
            return;
        }
        String got = told(call);
        String want = told(due);
        log.add(what + " = " + got);
        if (!got.equals(want)) {
            System.out.println("run " + seed + ":");
            for (String line : log) {
                System.out.println("  " + line);
            }
            System.out.println("  due is " + want);
            System.exit(1);
        }
    }
}
