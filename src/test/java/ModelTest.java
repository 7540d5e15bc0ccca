import java.util.Random;

/** Runs of random calls on NumberWords and on the plain model: both must answer alike. */
public final class ModelTest {
    private static final int RUNS = 500;
    private static final int CALLS = 120;
    private static final int WILD_CALLS = 20;
    /** So many calls of an object are promised. */
    private static final int MOST_CALLS = 512;
    /** A wild call is up to six. */
    private static final int WILD_MOST = 6 * WILD_CALLS;
    private static final int TEXTS = 60000;
    private static final int[] WILD = {
        Integer.MIN_VALUE, Integer.MIN_VALUE + 1, -1001, -1000, -999, -60, -2, -1, 0, 1, 2, 3, 7, 59, 60, 61,
        239, 240, 256, 998, 999, 1000, 1001, Integer.MAX_VALUE - 1, Integer.MAX_VALUE
    };
    private static final String[] WORDS = {
        "a", "b", "ab", "ba", "one", "two", "ten", "and", "twenty", "for", "word", "to", "by", "q", "r",
        "hundred", "abcdefghijkl", "z"
    };
    private static final String SIGNS = "abqrtcnz019#[];: ?.\u00ff";

    private static final Checks CHECKS = new Checks();

    private final Random random;
    private final NumberWords x = new NumberWords();
    private final Model model = new Model();
    private final StringBuilder told = new StringBuilder();
    private int calls;

    private ModelTest(long seed) {
        random = new Random(seed);
    }

    public static void main(String[] args) {
        for (int i = 0; i < TEXTS; i++) {
            new ModelTest(i).readOneText();
        }
        for (int i = 0; i < RUNS; i++) {
            new ModelTest(1000000L + i).run();
        }
        CHECKS.end();
    }

    private boolean hasCallsFor(int more) {
        return calls + more <= MOST_CALLS;
    }

    private void due(String call, int got, int want) {
        calls++;
        told.append(call).append(' ');
        CHECKS.due(got == want ? call : told.toString(), got, want);
    }

    /** Many texts with few faults each, looked at by their faults alone. */
    private void readOneText() {
        String text = spoiled(text());
        feedBoth(text);
        Model plain = model;
        due("read of " + text, x.read(0), plain.read(0));
        due("fault of " + text, x.fault(), plain.fault());
        due("names of " + text, x.about(0, 1), plain.about(0, 1));
    }

    private void run() {
        for (int tongue = 0; tongue < 3; tongue++) {
            readBoth(tongue, text());
        }
        for (int i = 0; i < CALLS; i++) {
            // A text may be fed byte by byte; a draft is the name of a number with some bytes more.
            if (random.nextInt(40) == 0 && hasCallsFor(240 + 2 + WILD_MOST)) {
                readBoth(random.nextInt(3), random.nextInt(3) == 0 ? spoiled(text()) : text());
            }
            if (random.nextInt(12) == 0 && hasCallsFor(2 * 65 + WILD_MOST)) {
                draftBoth();
            }
            if (hasCallsFor(2 + WILD_MOST)) {
                callBoth();
            }
        }
        for (int i = 0; i < WILD_CALLS; i++) {
            wildBoth();
        }
        if (!hasCallsFor(0)) {
            throw new IllegalStateException("more calls than are promised: " + calls);
        }
    }

    // ---- texts

    private String gap() {
        return random.nextInt(3) == 0 ? " ".repeat(1 + random.nextInt(2)) : "";
    }

    private String letters() {
        return WORDS[random.nextInt(WORDS.length)];
    }

    private String part() {
        if (random.nextInt(2) == 0) {
            return "#" + "qtrcn".charAt(random.nextInt(5)) + gap();
        }
        return letters() + " " + gap();
    }

    private String clause(int kindOfTongue) {
        if (random.nextInt(5) < 3) {
            int n = random.nextInt(kindOfTongue == 0 ? 13 : 1 + random.nextInt(1000));
            return "word" + gap() + n + gap() + letters() + gap() + ";";
        }
        int a = random.nextInt(kindOfTongue == 0 ? 20 : 1 + random.nextInt(1000));
        int b = random.nextInt(3) == 0 ? 999 : a + random.nextInt(1000 - a);
        int u = 2 + random.nextInt(random.nextInt(3) == 0 ? 499 : 19);
        StringBuilder clause = new StringBuilder("for" + gap() + a + gap() + "to" + gap() + b);
        clause.append(gap()).append("by").append(gap()).append(u).append(gap()).append(':').append(gap());
        int parts = 1 + random.nextInt(random.nextInt(6) == 0 ? 8 : 3);
        for (int i = 0; i < parts; i++) {
            boolean bracketed = random.nextInt(3) == 0;
            clause.append(bracketed ? "[" + part() : part());
            if (bracketed && i + 1 < parts && random.nextInt(2) == 0) {
                clause.append(part());
                i++;
            }
            clause.append(bracketed ? "]" + gap() : "");
        }
        return clause.append(';').toString();
    }

    private String text() {
        StringBuilder text = new StringBuilder(gap());
        int kind = random.nextInt(3);
        if (kind == 2) {
            text.append("word0a;word1ab;word2abc;word3b;");
        }
        int clauses = 1 + random.nextInt(12);
        for (int i = 0; i < clauses; i++) {
            String clause = clause(kind);
            if (text.length() + clause.length() <= 240) {
                text.append(clause).append(text.length() + clause.length() < 238 ? gap() : "");
            }
        }
        return text.toString();
    }

    /** The text with a byte or two put in, taken out or changed; now and then cut off. */
    private String spoiled(String text) {
        StringBuilder spoiled = new StringBuilder(text);
        int times = random.nextInt(3);
        for (int i = 0; i < times && spoiled.length() > 0; i++) {
            int at = random.nextInt(spoiled.length());
            char c = SIGNS.charAt(random.nextInt(SIGNS.length()));
            switch (random.nextInt(5)) {
                case 0 -> spoiled.setCharAt(at, c);
                case 1 -> spoiled.deleteCharAt(at);
                case 2 -> spoiled.insert(at, c);
                case 3 -> spoiled.insert(at, spoiled.substring(at / 2, at));
                default -> spoiled.setLength(random.nextInt(4) == 0 ? at : spoiled.length());
            }
        }
        return spoiled.length() > 240 ? spoiled.substring(0, 240) : spoiled.toString();
    }

    private void feedBoth(String text) {
        for (int from = 0; from < text.length(); ) {
            int n = Math.min(1 + random.nextInt(8), text.length() - from);
            long bytes = random.nextLong();
            for (int i = from; i < from + n; i++) {
                bytes = bytes << 8 | text.charAt(i);
            }
            due("feed", x.feed(n, bytes), model.feed(n, bytes));
            from += n;
        }
    }

    private void readBoth(int tongue, String text) {
        feedBoth(text);
        due("read(" + tongue + ") of " + text, x.read(tongue), model.read(tongue));
        due("fault()", x.fault(), model.fault());
    }

    // ---- calls

    private void draftBoth() {
        due("clear()", x.clear(), model.clear());
        String draft = "";
        int tongue = random.nextInt(3);
        int size = -1;
        for (int i = 0; i < 20 && size < 0; i++) {
            int n = random.nextInt(random.nextInt(2) == 0 ? 1000 : 20);
            size = model.name(tongue, n, -1);
            draft = size < 0 ? "" : Checks.nameText(x, tongue, n);
            calls += size < 0 ? 0 : size + 1;
        }
        StringBuilder heard = new StringBuilder(draft);
        int times = random.nextInt(3) == 0 ? random.nextInt(5) : 0;
        for (int i = 0; i < times; i++) {
            heard.insert(random.nextInt(heard.length() + 1), "ab eo".charAt(random.nextInt(5)));
        }
        for (int i = 0; i < heard.length(); i++) {
            due("write(" + heard.charAt(i) + ")", x.write(heard.charAt(i)), model.write(heard.charAt(i)));
        }
    }

    private int tongue() {
        return random.nextInt(25) == 0 ? random.nextInt(8) - 3 : random.nextInt(3);
    }

    private int number() {
        if (random.nextInt(30) == 0) {
            return random.nextInt(2) == 0 ? -1 - random.nextInt(3) : 1000 + random.nextInt(3);
        }
        return random.nextInt(random.nextInt(2) == 0 ? 30 : 1000);
    }

    private int upTo(int most) {
        return random.nextInt(20) == 0 ? random.nextInt(2) * (most + 2) - 1 : random.nextInt(most + 1);
    }

    private void callBoth() {
        int t = tongue();
        int n = number();
        int m = number();
        int i = upTo(random.nextInt(2) == 0 ? 5 : 60);
        String at = "(" + t + ", " + n + ", " + m + ", " + i + ")";
        switch (random.nextInt(22)) {
            case 0 -> due("about" + at, x.about(t, i % 8), model.about(t, i % 8));
            case 1 -> due("name" + at, x.name(t, n, i), model.name(t, n, i));
            case 2 -> due("letters" + at, x.letters(t, n), model.letters(t, n));
            case 3 -> due("by" + at, x.by(t, n), model.by(t, n));
            case 4 -> due("deep" + at, x.deep(t, n), model.deep(t, n));
            case 5 -> due("uses" + at, x.uses(t, i % 27, n, m), model.uses(t, i % 27, n, m));
            case 6 -> due("first" + at, x.first(t, i % 27), model.first(t, i % 27));
            case 7 -> due("song" + at, x.song(t, n, m), model.song(t, n, m));
            case 8 -> due("order" + at, x.order(t, n), model.order(t, n));
            case 9 -> due("place" + at, x.place(t, n), model.place(t, n));
            case 10 -> due("twins" + at, x.twins(t, i % 4), model.twins(t, i % 4));
            case 11 -> due("find false" + at, x.find(t, false, i % 4 - 1), model.find(t, false, i % 4 - 1));
            case 12 -> due("find true" + at, x.find(t, true, i % 4 - 1), model.find(t, true, i % 4 - 1));
            case 13 -> due("nearest" + at, x.nearest(t, i % 3), model.nearest(t, i % 3));
            case 14 -> due("led" + at, x.led(t, tongueOf(m), i), model.led(t, tongueOf(m), i));
            case 15 -> due("chain" + at, x.chain(t, n, i % 4), model.chain(t, n, i % 4));
            case 16 -> due("honest" + at, x.honest(t, i % 7), model.honest(t, i % 7));
            case 17 -> due("far" + at, x.far(t, n, m), model.far(t, n, m));
            case 18 -> due("mixed" + at, x.mixed(t, i % 11, n, n + m % 63), model.mixed(t, i % 11, n, n + m % 63));
            case 19 -> due("squares" + at, x.squares(t, n), model.squares(t, n));
            default -> squareBoth(t, n);
        }
    }

    private int wild() {
        return random.nextInt(2) == 0 ? random.nextInt(3) : WILD[random.nextInt(WILD.length)];
    }

    /** Arguments from all over, so that no index, shift or sum goes astray. */
    private void wildBoth() {
        int a = wild();
        int b = wild();
        int c = wild();
        int d = wild();
        String at = "(" + a + ", " + b + ", " + c + ", " + d + ")";
        switch (random.nextInt(18)) {
            case 0 -> due("feed" + at, x.feed(a, b), model.feed(a, b));
            case 1 -> due("read" + at, x.read(a), model.read(a));
            case 2 -> due("about" + at, x.about(a, b), model.about(a, b));
            case 3 -> due("name" + at, x.name(a, b, c), model.name(a, b, c));
            case 4 -> due("letters" + at, x.letters(a, b), model.letters(a, b));
            case 5 -> due("by" + at, x.by(a, b), model.by(a, b));
            case 6 -> due("deep" + at, x.deep(a, b), model.deep(a, b));
            case 7 -> due("uses" + at, x.uses(a, b, c, d), model.uses(a, b, c, d));
            case 8 -> due("first" + at, x.first(a, b), model.first(a, b));
            case 9 -> due("song" + at, x.song(a, b, c), model.song(a, b, c));
            case 10 -> due("order" + at, x.order(a, b), model.order(a, b));
            case 11 -> due("place" + at, x.place(a, b), model.place(a, b));
            case 12 -> due("write" + at, x.write(a), model.write(a));
            case 13 -> due("find" + at, x.find(a, b > 0, c), model.find(a, b > 0, c));
            case 14 -> due("led" + at, x.led(a, b, c), model.led(a, b, c));
            case 15 -> due("chain" + at, x.chain(a, b, c), model.chain(a, b, c));
            case 16 -> due("honest" + at, x.honest(a, b), model.honest(a, b));
            default -> wildPairs(a, b, c, d);
        }
    }

    private void wildPairs(int a, int b, int c, int d) {
        String at = "(" + a + ", " + b + ", " + c + ", " + d + ")";
        due("twins" + at, x.twins(a, b), model.twins(a, b));
        due("nearest" + at, x.nearest(a, b), model.nearest(a, b));
        due("far" + at, x.far(a, b, c), model.far(a, b, c));
        due("mixed" + at, x.mixed(a, b, c, d), model.mixed(a, b, c, d));
        due("square" + at, x.square(a, b, c, d), model.square(a, b, c, d));
        due("squares" + at, x.squares(a, b), model.squares(a, b));
    }

    private static int tongueOf(int m) {
        return Math.floorMod(m, 3);
    }

    private void squareBoth(int t, int m) {
        int u = random.nextInt(random.nextInt(10) == 0 ? 2010 : 20) - (random.nextInt(2) == 0 ? 1005 : 10);
        int v = random.nextInt(20) - 10;
        due("square(" + t + ", " + m + ", " + u + ", " + v + ")", x.square(t, m, u, v), model.square(t, m, u, v));
        due("square turned", x.square(t, m, v, u), model.square(t, m, v, u));
    }
}
