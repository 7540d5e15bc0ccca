/**
 * The boundary cases of the document's terms, parts 2 to 4: what a NAME is made of and when there is none,
 * NAMES of 0 and of 60 bytes, ORDER, TWINS, READ, THE CHAIN, FAR and SQUARES at their edges.
 */
public final class NameBoundaryTest {
    private static final int NONE = NumberWords.NONE;
    private static final Checks CHECKS = new Checks();

    private static final String TWELVE = "abcdefghijkl";
    /** Sixty bytes, 56 of them letters: as many as a NAME can have. */
    private static final String SIXTY = TWELVE + " " + TWELVE + " " + TWELVE + " " + TWELVE + " abcdefgh";
    private static final String NOTHING = "for 0 to 0 by 2:[x];";

    public static void main(String[] args) {
        wordAheadOfForms();
        fromAToB();
        firstClause();
        quotient();
        whole();
        rest();
        complement();
        next();
        brackets();
        partsOfNoBytes();
        noneSo();
        partWithoutName();
        askedWithinItself();
        eightDeep();
        sixtyBytes();
        partsAbove999();
        nameOfNoParts();
        letters();
        orderOfBytes();
        orderOfLongNames();
        orderOfLikeNames();
        firstTwins();
        twinsByRuns();
        readJustSo();
        readAsRun();
        chains();
        longChain();
        honest();
        far();
        farOfLongRuns();
        nearest();
        mixedUp();
        squares();
        squaresOfLetters();
        led();
        CHECKS.end();
    }

    private static void due(String what, long got, long want) {
        CHECKS.due(what, got, want);
    }

    private static void name(String text, int n, String name) {
        CHECKS.dueName(text, n, name);
    }

    private static NumberWords told(String text) {
        return CHECKS.told(text);
    }

    // ---- "NAME of n: its word, if it has one; else by the first clause that is for n (A to B)"

    private static void wordAheadOfForms() {
        name("word 5 a;for 0 to 9 by 2:b;", 5, "a");
        name("for 0 to 9 by 2:b;word 5 a;", 5, "a");
        name("for 0 to 9 by 2:b;word 5 a;", 4, "b");
        name("for 0 to 9 by 2:b;word 5 a;", 6, "b");
        due("by the word", told("for 0 to 9 by 2:b;word 5 a;").by(0, 5), 1);
        // Even where the form would lead nowhere.
        name("for 0 to 9 by 2:#t;word 5 a;", 5, "a");
    }

    private static void fromAToB() {
        String text = "for 10 to 20 by 2:a;";
        name(text, 9, "-");
        name(text, 10, "a");
        name(text, 20, "a");
        name(text, 21, "-");
        due("so many", told(text).about(0, 1), 11);
        due("one alone", told("for 7 to 7 by 2:a;").about(0, 1), 1);
        due("all", told("for 0 to 999 by 2:a;").about(0, 1), 1000);
    }

    private static void firstClause() {
        String text = "for 10 to 20 by 2:a;for 20 to 30 by 2:b;for 0 to 999 by 2:c;";
        name(text, 9, "c");
        name(text, 10, "a");
        name(text, 20, "a");
        name(text, 21, "b");
        name(text, 30, "b");
        name(text, 31, "c");
        // The first one counts even if it leads to no NAME.
        name("for 10 to 20 by 2:#t;for 0 to 999 by 2:c;", 20, "-");
        due("by none", told("for 10 to 20 by 2:#t;for 0 to 999 by 2:c;").by(0, 20), NONE);
    }

    // ---- "with r what is left of n by U: #q is NAME of n / U, #t of n - r, #r of r, #c of U - r, .."

    private static void quotient() {
        String text = "word0z;word1a;word2b;word99c;for 9 to 999 by 10:#q;";
        name(text, 9, "z");
        name(text, 10, "a");
        name(text, 19, "a");
        name(text, 20, "b");
        name(text, 29, "b");
        name(text, 30, "-");
        name(text, 990, "c");
        name(text, 999, "c");
        name("word1a;for 499 to 500 by 500:#q;", 499, "-");
        name("word1a;for 499 to 500 by 500:#q;", 500, "a");
    }

    private static void whole() {
        String text = "word0z;word10a;word20b;for 1 to 29 by 10:x#t;";
        name(text, 1, "x z");
        name(text, 9, "x z");
        name(text, 11, "x a");
        name(text, 19, "x a");
        name(text, 21, "x b");
        name(text, 29, "x b");
    }

    private static void rest() {
        String text = "word0z;word1a;word9i;for 10 to 29 by 10:#r;";
        name(text, 10, "z");
        name(text, 11, "a");
        name(text, 19, "i");
        name(text, 20, "z");
        name("word0z;for 10 to 10 by 10:a#r;", 10, "a z");
        name("word499z;for 999 to 999 by 500:#r;", 999, "z");
    }

    private static void complement() {
        String text = "word1a;word9i;word10j;for 20 to 29 by 10:#c;";
        name(text, 20, "j");
        name(text, 21, "i");
        name(text, 29, "a");
        name("word500z;for 0 to 0 by 500:#c;", 0, "z");
        name("word1z;for 999 to 999 by 500:#c;", 999, "z");
    }

    private static void next() {
        String text = "word30a;word40b;for 20 to 39 by 10:#n;";
        name(text, 20, "a");
        name(text, 21, "a");
        name(text, 29, "a");
        name(text, 31, "b");
        name(text, 39, "b");
        name("word2z;for 0 to 1 by 2:#n;", 0, "z");
    }

    /** "what is in brackets is there only if r is not 0". */
    private static void brackets() {
        String text = "for 20 to 30 by 10:a[b]c;";
        name(text, 20, "a c");
        name(text, 21, "a b c");
        name(text, 29, "a b c");
        name(text, 30, "a c");
        name("for 0 to 1 by 2:[a]b;", 0, "b");
        name("for 0 to 1 by 2:[a]b;", 1, "a b");
        name("for 500 to 501 by 500:[a b]c[d];", 500, "c");
        name("for 500 to 501 by 500:[a b]c[d];", 501, "a b c d");
    }

    /** "a blank between them (a part of 0 bytes is left out)". */
    private static void partsOfNoBytes() {
        name(NOTHING + "for 1 to 1 by 2:#q a;", 1, "a");
        name(NOTHING + "for 1 to 1 by 2:a #q;", 1, "a");
        name(NOTHING + "for 1 to 1 by 2:a #q b;", 1, "a b");
        name(NOTHING + "for 1 to 1 by 2:#q #q a #q #q b #q #q;", 1, "a b");
        name(NOTHING + "for 1 to 1 by 2:#q #q;", 1, "");
        // Left out, it takes no blank of the sixty bytes.
        String sixty = NOTHING + "word2" + TWELVE + ";for 11 to 11 by 3:#r#r#r#r abcdefgh;";
        due("sixty", told(sixty).name(0, 11, NONE), 60);
        due("sixty and nothing", told(sixty + "for 22 to 22 by 2:#q#r;").name(0, 22, NONE), 60);
        due("nothing and sixty", told(sixty + "for 22 to 22 by 2:#r#q;").name(0, 22, NONE), 60);
    }

    // ---- "No NAME: there is none so; some part has none; it is asked for n within itself, .."

    private static void noneSo() {
        name("word 5 a;", 4, "-");
        name("word 5 a;", 6, "-");
        name("", 0, "-");
        name("", 999, "-");
    }

    private static void partWithoutName() {
        name("word1a;for 10 to 19 by 10:#q[#r];", 10, "a");
        name("word1a;for 10 to 19 by 10:#q[#r];", 11, "a a");
        name("word1a;for 10 to 19 by 10:#q[#r];", 12, "-");
        name("word1a;for 12 to 12 by 10:#r#q;", 12, "-");
        name("word1a;for 12 to 12 by 10:#q#q#q#q#q#q#q#r;", 12, "-");
        // A part's part.
        name("word1a;for 12 to 12 by 10:#q#r;for 24 to 24 by 2:#q;", 24, "-");
    }

    private static void askedWithinItself() {
        name("for 0 to 0 by 2:a#q;", 0, "-");
        name("for 0 to 0 by 2:a#t;", 0, "-");
        name("for 0 to 0 by 2:a#r;", 0, "-");
        name("for 5 to 5 by 5:a#t;", 5, "-");
        name("for 4 to 4 by 5:a#r;", 4, "-");
        name("for 5 to 5 by 5:a#c;", 5, "-");
        name("for 2 to 2 by 4:a#c;", 2, "-");
        // In brackets that are not there it is not asked for.
        name("for 5 to 5 by 5:a[#t];", 5, "a");
        name("for 4 to 4 by 5:a[#r];", 4, "-");
        // By way of another one, and of two others; who asks for one of these has none, either.
        String two = "for 1 to 1 by 2:#n;for 2 to 2 by 3:a#c;for 20 to 20 by 10:#q;";
        name(two, 1, "-");
        name(two, 2, "-");
        name(two, 20, "-");
        String three = "for 1 to 1 by 2:#n;for 2 to 2 by 3:#n;for 3 to 3 by 2:#r;";
        name(three, 1, "-");
        name(three, 2, "-");
        name(three, 3, "-");
        // Twice the same, but not within itself.
        name("word1a;for 11 to 11 by 10:#q#r#q;", 11, "a a a");
    }

    /** "or is more than eight deep (n is one deep)". */
    private static void eightDeep() {
        String halves = "word1a;for 2 to 999 by 2:#q;";
        NumberWords x = told(halves);
        for (int deep = 1; deep <= 8; deep++) {
            due("least of that depth", x.deep(0, 1 << deep - 1), deep);
            due("greatest of that depth", x.deep(0, (1 << deep) - 1), deep);
        }
        for (int n = 256; n <= 999; n += 7) {
            due("nine deep and more", x.deep(0, n), NONE);
            due("no name", x.name(0, n, NONE), NONE);
        }
        due("names", x.about(0, 1), 255);
        // Letters alone are one deep, like a word; so is a NAME of no parts, though it is left out.
        String forms = "for 1 to 1 by 2:a;for 2 to 999 by 2:#q;";
        due("eight deep by letters", told(forms).deep(0, 128), 8);
        due("nine deep by letters", told(forms).deep(0, 256), NONE);
        String nothing = NOTHING + "for 1 to 999 by 2:#q;";
        due("0 is one deep", told(nothing).deep(0, 0), 1);
        due("eight deep by nothing", told(nothing).deep(0, 127), 8);
        due("nine deep by nothing", told(nothing).deep(0, 128), NONE);
        // One part is eight deep, whatever the others are, ahead of it or behind.
        name(halves.replace("#q;", "#q[#r];"), 129, "a a");
        name("word1a;for 2 to 255 by 2:#q;for 257 to 257 by 2:#r#q;", 257, "-");
        name("word1a;for 2 to 255 by 2:#q;for 257 to 257 by 2:#q#r;", 257, "-");
        name("word1a;for 2 to 255 by 2:#q;for 509 to 509 by 4:#r#q;", 509, "a a");
        deepFromAbove();
    }

    /** Each asks for the next greater one, so that all those asked for come later. */
    private static void deepFromAbove() {
        StringBuilder up = new StringBuilder();
        for (int n = 1; n <= 8; n++) {
            up.append("for ").append(n).append(" to ").append(n).append(" by ").append(n + 1).append(":#n;");
        }
        NumberWords x = told(up + "word9x;");
        due("nine deep", x.deep(0, 1), NONE);
        due("eight deep", x.deep(0, 2), 8);
        due("two deep", x.deep(0, 8), 2);
        due("one deep", x.deep(0, 9), 1);
        // What is deep does not make deeper what comes behind it.
        NumberWords y = told("word1a;for 2 to 128 by 2:#q;word129b;for 130 to 130 by 2:c;for 131 to 131 by 129:#q;");
        due("eight deep", y.deep(0, 128), 8);
        due("a word behind it", y.deep(0, 129), 1);
        due("letters behind it", y.deep(0, 130), 1);
        due("a part behind it", y.deep(0, 131), 2);
    }

    /** "it has more than 60 bytes (blanks, too)". */
    private static void sixtyBytes() {
        String twelve = "word1" + TWELVE + ";";
        name(twelve + "for 5 to 5 by 2:#r#r#r#r abcdefgh;", 5, SIXTY);
        name(twelve + "for 5 to 5 by 2:#r#r#r#r abcdefghi;", 5, "-");
        name(twelve + "for 5 to 5 by 2:abcdefgh #r#r#r#r;", 5, "abcdefgh " + SIXTY.substring(0, 51));
        name(twelve + "for 5 to 5 by 2:abcdefghi #r#r#r#r;", 5, "-");
        name(twelve + "for 5 to 5 by 2:#r#r#r#r#r;", 5, "-");
        name(twelve + "for 5 to 5 by 2:#r#r#r#r;", 5, SIXTY.substring(0, 51));
        // Eight parts of one byte with their blanks are 15; of six and seven bytes 55 and 63.
        name("word1abcdef;for 5 to 5 by 2:#r#r#r#r#r#r#r#r;", 5, ("abcdef " + "abcdef ".repeat(7)).trim());
        name("word1abcdefg;for 5 to 5 by 2:#r#r#r#r#r#r#r#r;", 5, "-");
        // 58 and a blank and one letter; 59 and a blank and one letter.
        name(twelve + "for 5 to 5 by 2:#r#r#r#r abcdef;for 10 to 10 by 2:#q a;", 10, SIXTY.substring(0, 58) + " a");
        name(twelve + "for 5 to 5 by 2:#r#r#r#r abcdefg;for 10 to 10 by 2:#q a;", 10, "-");
        // Sixty alone may be a part, and nothing with it; more than sixty is no part.
        name(twelve + "for 5 to 5 by 2:#r#r#r#r abcdefgh;for 10 to 10 by 2:#q;", 10, SIXTY);
        name(twelve + "for 5 to 5 by 2:#r#r#r#r abcdefgh;for 10 to 10 by 2:#q a;", 10, "-");
        name(twelve + "for 5 to 5 by 2:#r#r#r#r abcdefgh;for 10 to 10 by 2:a #q;", 10, "-");
        name(twelve + "for 5 to 5 by 2:#r#r#r#r abcdefghi;for 10 to 10 by 2:#q;", 10, "-");
    }

    /** "or a part is above 999". */
    private static void partsAbove999() {
        name("word 999 a;for 998 to 998 by 3:#n;", 998, "a");
        name("word 0 a;for 999 to 999 by 3:#n;", 999, "-");
        name("word 0 a;word 1 b;for 999 to 999 by 500:#n;", 999, "-");
        name("word 0 a;word 1 b;for 998 to 999 by 2:#n;", 998, "-");
        name("word 0 a;word 1 b;for 998 to 999 by 2:#n;", 999, "-");
        name("word 998 a;for 997 to 997 by 2:#n;", 997, "a");
        name("word 500 a;for 499 to 499 by 500:#n;", 499, "a");
        name("word 500 a;for 501 to 501 by 500:#n;", 501, "-");
        name("for 500 to 500 by 500:a[#n];", 500, "a");
        name("for 501 to 501 by 500:a[#n];", 501, "-");
        // One such part is enough.
        name("word 1 a;for 501 to 501 by 500:#q#r#n;", 501, "-");
    }

    /** "(A NAME of no parts, all in brackets, has 0 bytes.)" */
    private static void nameOfNoParts() {
        NumberWords x = told("for 0 to 999 by 500:[a b];");
        due("bytes", x.name(0, 0, NONE), 0);
        due("byte 0", x.name(0, 0, 0), NONE);
        due("bytes of the other", x.name(0, 500, NONE), 0);
        due("bytes of one with r", x.name(0, 501, NONE), 3);
        due("letters", x.letters(0, 500), 0);
        due("by", x.by(0, 500), 0);
        due("deep", x.deep(0, 500), 1);
        due("it is a NAME", x.about(0, 1), 1000);
        due("place", x.place(0, 500), 1);
        due("song", x.song(0, 500, 501), 2);
        due("uses", x.uses(0, 0, 500, 501), 1);
        due("far from itself", x.far(0, 500, 500), 0);
        due("far from another", x.far(0, 500, 501), 2);
        due("found", x.find(0, false, 1), 500);
        due("led", x.led(0, 0, NONE), 0);
    }

    /** "LETTERS of n: how many bytes of its NAME are no blanks". */
    private static void letters() {
        due("one", told("word5a;").letters(0, 5), 1);
        due("twelve", told("word5" + TWELVE + ";").letters(0, 5), 12);
        due("blanks are none", told("for 5 to 5 by 2:a b c d e f g h;").letters(0, 5), 8);
        due("the most", told("word1" + TWELVE + ";for 5 to 5 by 2:#r#r#r#r abcdefgh;").letters(0, 5), 56);
    }

    // ---- "ORDER: NUMBERS that have a NAME, byte by byte (a blank ahead of letters; ..)"

    private static void dueOrder(String text, int... numbers) {
        NumberWords x = told(text);
        for (int i = 0; i < numbers.length; i++) {
            due("order of " + i + " by " + text, x.order(0, i), numbers[i]);
            due("place of " + numbers[i] + " by " + text, x.place(0, numbers[i]), i);
        }
        due("behind the last by " + text, x.order(0, numbers.length), NONE);
    }

    private static void orderOfBytes() {
        dueOrder("word1b;word2a;", 2, 1);
        dueOrder("word1z;word2a;word3y;", 2, 3, 1);
        // "one that is at an end ahead".
        dueOrder("word1ab;word2a;word3abc;", 2, 1, 3);
        // "a blank ahead of letters", but behind an end.
        dueOrder("word1aa;for 2 to 2 by 3:a z;word3a;", 3, 2, 1);
        dueOrder("word1zz;word2z;for 3 to 3 by 2:z z;for 4 to 4 by 2:[x];", 4, 2, 3, 1);
        dueOrder("");
    }

    /** NAMES that are alike but for a byte: each of the sixty. */
    private static void orderOfLongNames() {
        String text = "word1" + TWELVE + ";for 5 to 5 by 2:#r#r#r#r abcdefg%s;for 7 to 7 by 2:#r#r#r#r abcdefg%s;";
        dueOrder(String.format(text, "b", "a"), 1, 7, 5);
        dueOrder(String.format(text, "a", "b"), 1, 5, 7);
        dueOrder(String.format(text, "a", "a"), 1, 5, 7);
        dueOrder(String.format(text, "a", ""), 1, 7, 5);
        for (int same = 0; same < 12; same++) {
            String ahead = "a".repeat(same);
            dueOrder("word1" + ahead + "b;word2" + ahead + "a;", 2, 1);
            if (same > 0) {
                dueOrder("word1" + ahead + "a;word2" + ahead + ";", 2, 1);
                // The same behind a word of twelve letters.
                String behind = "word9" + TWELVE + ";for 19 to 19 by 10:#r " + ahead + "a;"
                        + "for 29 to 29 by 10:#r " + ahead + ";";
                dueOrder(behind, 9, 29, 19);
            }
        }
    }

    /** "of like NAMES the lesser NUMBER". */
    private static void orderOfLikeNames() {
        dueOrder("word9a;word5a;word7a;", 5, 7, 9);
        dueOrder("word9a;word5a;word7b;word1b;", 5, 9, 1, 7);
        NumberWords x = told("for 0 to 999 by 2:a;");
        for (int n = 0; n < 1000; n += 37) {
            due("order of like names", x.order(0, n), n);
            due("place of like names", x.place(0, n), n);
        }
        due("the last", x.order(0, 999), 999);
        due("behind it", x.order(0, 1000), NONE);
    }

    // ---- "TWINS are two NUMBERS of one RUN: THE FIRST: the least greater one, of these the least lesser one"

    private static void dueTwins(String text, int lesser, int greater, int count) {
        NumberWords x = told(text);
        due("lesser twin by " + text, x.twins(0, 0), lesser);
        due("greater twin by " + text, x.twins(0, 1), greater);
        due("twins by " + text, x.twins(0, 2), count);
    }

    private static void firstTwins() {
        dueTwins("", NONE, NONE, 0);
        dueTwins("word5a;", NONE, NONE, 0);
        dueTwins("word5a;word6b;", NONE, NONE, 0);
        dueTwins("word5a;word6a;", 5, 6, 2);
        dueTwins("word999a;word0a;", 0, 999, 2);
        // The pair with the least greater one, not the one with the least lesser one.
        dueTwins("word0a;word9a;word5b;word6b;", 5, 6, 4);
        dueTwins("word0b;word9b;word5a;word6a;", 5, 6, 4);
        // Three and four of one RUN: each of them has a twin.
        dueTwins("word3a;word5a;word7a;", 3, 5, 3);
        dueTwins("word8a;word6a;word4a;word2a;", 2, 4, 4);
        dueTwins("for 0 to 999 by 2:a;", 0, 1, 1000);
    }

    private static void twinsByRuns() {
        dueTwins("word5ab;for 6 to 6 by 2:a b;", 5, 6, 2);
        dueTwins("for 5 to 5 by 2:ab c;for 6 to 6 by 2:a bc;", 5, 6, 2);
        dueTwins("word5ab;word6abc;word7b;word8ba;", NONE, NONE, 0);
        dueTwins("for 5 to 6 by 5:[a];for 10 to 10 by 5:[a];", 5, 10, 2);
        String long1 = "word1" + TWELVE + ";for 5 to 5 by 2:#r#r#r#r abcdefgh;for 7 to 7 by 2:#r#r#r#r abcdefg%s;";
        dueTwins(String.format(long1, "h"), 5, 7, 2);
        dueTwins(String.format(long1, "i"), NONE, NONE, 0);
    }

    // ---- "READ is THE DRAFT (60 bytes at most, letters and blanks): .."

    private static void readJustSo() {
        NumberWords x = told("word5ab;word9ab;for 6 to 6 by 2:a b;word7abc;");
        String[] drafts = {"ab", "a b", "abc", "a", "abcd", "ab ", " ab", "a  b", "ba", ""};
        int[] so = {2, 1, 1, 0, 0, 0, 0, 0, 0, 0};
        for (int i = 0; i < drafts.length; i++) {
            Checks.writeDraft(x, drafts[i]);
            due("just so: '" + drafts[i] + "'", x.find(0, false, NONE), so[i]);
        }
    }

    private static void readAsRun() {
        NumberWords x = told("word5ab;word9ab;for 6 to 6 by 2:a b;word7abc;");
        String[] drafts = {"ab", "a b", " ab", "ab ", "  a  b  ", "a bc", "abcd", "a", "ba", "", " "};
        int[] so = {3, 3, 3, 3, 3, 1, 0, 0, 0, 0, 0};
        for (int i = 0; i < drafts.length; i++) {
            Checks.writeDraft(x, drafts[i]);
            due("as a run: '" + drafts[i] + "'", x.find(0, true, NONE), so[i]);
        }
        NumberWords y = told("word1" + TWELVE + ";for 5 to 5 by 2:#r#r#r#r abcdefgh;");
        Checks.writeDraft(y, SIXTY);
        due("a draft of sixty bytes", y.find(0, false, 0), 5);
        due("as a run", y.find(0, true, 0), 5);
        Checks.writeDraft(y, SIXTY.substring(0, 59));
        due("of 59 bytes", y.find(0, false, NONE), 0);
        due("of 59 bytes, as a run", y.find(0, true, NONE), 0);
        Checks.writeDraft(y, SIXTY.substring(0, 59) + "i");
        due("with another last byte", y.find(0, false, NONE), 0);
        due("with another last byte, as a run", y.find(0, true, NONE), 0);
        Checks.writeDraft(y, SIXTY.replace(" ", "") + "    ");
        due("its blanks at the end", y.find(0, false, NONE), 0);
        due("its blanks at the end, as a run", y.find(0, true, 0), 5);
        Checks.writeDraft(y, " ".repeat(60));
        due("sixty blanks", y.find(0, true, NONE), 0);
    }

    // ---- "THE CHAIN from n: .. to a NUMBER without a NAME (it stops there) or one that comes again"

    private static void dueChain(NumberWords x, int n, int count, int last, int again) {
        due("chain of " + n + ", how many", x.chain(0, n, 0), count);
        due("chain of " + n + ", the last", x.chain(0, n, 1), last);
        due("chain of " + n + ", again", x.chain(0, n, 2), again);
    }

    private static void chains() {
        NumberWords x = told("word1a;word2a;word4ab;word5abcde;word6abcdefg;word9abcdef;word7abcdefghi;"
                + "word8abcdef;word10abcdefgh;word999" + TWELVE + ";");
        dueChain(x, 3, 1, 3, NONE);
        dueChain(x, 1, 1, 1, 1);
        dueChain(x, 2, 2, 1, 1);
        dueChain(x, 4, 3, 1, 1);
        dueChain(x, 5, 1, 5, 5);
        dueChain(x, 999, 2, 12, NONE);
        // 6, 7, 9 and 6 again; from 9 it is 9, 6, 7.
        dueChain(x, 6, 3, 9, 6);
        dueChain(x, 9, 3, 7, 9);
        // From outside into that round, and by way of another one.
        dueChain(x, 8, 4, 9, 6);
        dueChain(x, 10, 5, 9, 6);
        dueChain(x, 0, 1, 0, NONE);
        NumberWords y = told("for 0 to 0 by 2:[x];for 7 to 7 by 7:[x];word8abcdefg;word9z;");
        dueChain(y, 0, 1, 0, 0);
        dueChain(y, 7, 2, 0, 0);
        dueChain(y, 8, 3, 0, 0);
        dueChain(y, 9, 2, 1, NONE);
        NumberWords z = told("word1" + TWELVE + ";for 5 to 5 by 2:#r#r#r#r abcdefgh;"
                + "for 56 to 56 by 5:#r#r#r#r abcdefgh;");
        dueChain(z, 5, 2, 56, 56);
        dueChain(z, 56, 1, 56, 56);
    }

    /** Each has a letter less than it is: the chain of 47 goes down to 1; the NAME of 48 would have 61 bytes. */
    private static void longChain() {
        StringBuilder down = new StringBuilder("word1a;");
        for (int n = 2; n <= 11; n++) {
            down.append("word").append(n).append("a".repeat(n - 1)).append(';');
        }
        NumberWords x = told(down + "for 12 to 99 by 2:#q#q a[b];");
        dueChain(x, 47, 47, 1, 1);
        dueChain(x, 24, 24, 1, 1);
        dueChain(x, 2, 2, 1, 1);
        dueChain(x, 1, 1, 1, 1);
        dueChain(x, 48, 1, 48, NONE);
    }

    /** "HONEST are NUMBERS that are as many as their LETTERS". */
    private static void honest() {
        NumberWords x = told(NOTHING + "word1a;word2a;word3abcd;word12" + TWELVE + ";"
                + "for 8 to 8 by 9:a b c d e f g h;");
        int[] due = {0, 1, 8, 12, NONE};
        for (int i = 0; i < due.length; i++) {
            due("honest " + i, x.honest(0, i), due[i]);
        }
        due("so many", x.about(0, 4), 4);
        NumberWords y = told("word1" + TWELVE + ";for 56 to 57 by 55:#r#r#r#r abcdefgh;");
        due("the greatest that can be", y.honest(0, 0), 56);
        due("so many", y.about(0, 4), 1);
    }

    // ---- "FAR are two RUNS by: the least number of letters put in, taken out, changed"

    private static void dueFar(String text, int n, int m, int far) {
        NumberWords x = told(text);
        due("far by " + text, x.far(0, n, m), far);
        due("far, turned, by " + text, x.far(0, m, n), far);
    }

    private static void far() {
        dueFar("word1a;word2a;", 1, 2, 0);
        dueFar("word1a;word2b;", 1, 2, 1);
        dueFar("word1a;word2ab;", 1, 2, 1);
        dueFar("word1a;word2ba;", 1, 2, 1);
        dueFar("word1ab;word2ba;", 1, 2, 2);
        dueFar("word1abc;word2bcd;", 1, 2, 2);
        dueFar("word1kitten;word2sitting;", 1, 2, 3);
        dueFar("word1intention;word2execution;", 1, 2, 5);
        dueFar("word1ab;for 2 to 2 by 3:a b;", 1, 2, 0);
        dueFar("word1ab;for 2 to 2 by 2:[x];", 1, 2, 2);
        dueFar("for 1 to 1 by 500:#q;for 0 to 0 by 2:[x];", 1, 0, 0);
        dueFar("word1a;", 1, 1, 0);
        dueFar("word1a;", 1, 2, NONE);
        dueFar("word1a;", 2, 2, NONE);
    }

    /** Runs of 56 letters: alike, with one other letter at each end, with no letter alike, against nothing. */
    private static void farOfLongRuns() {
        String form = "word1" + TWELVE + ";for 5 to 5 by 2:#r#r#r#r abcdefgh;";
        dueFar(form + "for 7 to 7 by 2:#r#r#r#r abcdefgh;", 5, 7, 0);
        dueFar(form + "for 7 to 7 by 2:#r#r#r#r abcdefgx;", 5, 7, 1);
        dueFar(form + "for 7 to 7 by 2:#r#r#r#r abcdefg;", 5, 7, 1);
        dueFar(form + "for 7 to 7 by 2:#r#r#r#r;", 5, 7, 8);
        dueFar(form + "for 7 to 7 by 2:x#r#r#r#r abcdef;", 5, 7, 3);
        dueFar(form + "word2mnopqrstuvwx;for 8 to 8 by 3:#r#r#r#r mnopqrst;", 5, 8, 56);
        dueFar(form + "for 6 to 6 by 2:[x];", 5, 6, 56);
        dueFar(form, 5, 1, 44);
    }

    /** "NEAREST to THE DRAFT (without blanks): the NUMBER whose RUN is least FAR (the least one of these)". */
    private static void nearest() {
        NumberWords x = told("word9ab;word5ad;word7abcd;");
        String[] drafts = {"ab", "a b", "ac", "", "abcd", "abc", "  ", "x"};
        int[] numbers = {9, 9, 5, 5, 7, 7, 5, 5};
        int[] ways = {0, 0, 1, 2, 0, 1, 2, 2};
        for (int i = 0; i < drafts.length; i++) {
            Checks.writeDraft(x, drafts[i]);
            due("nearest to '" + drafts[i] + "'", x.nearest(0, 0), numbers[i]);
            due("how far from '" + drafts[i] + "'", x.nearest(0, 1), ways[i]);
        }
        NumberWords y = told("word999a;");
        Checks.writeDraft(y, "b".repeat(60));
        due("the only one", y.nearest(0, 0), 999);
        due("sixty away", y.nearest(0, 1), 60);
        NumberWords z = told("for 999 to 999 by 3:[x];word 998 a;");
        due("nothing is nearest to nothing", z.nearest(0, 0), 999);
        due("0 away", z.nearest(0, 1), 0);
        Checks.writeDraft(z, "b".repeat(60));
        due("of two that are sixty away the least", z.nearest(0, 0), 998);
    }

    /** "pairs of NUMBERS that have NAMES, RUNS of which are d or less FAR". */
    private static void mixedUp() {
        NumberWords x = told("word0abcdefghij;word1klmnopqrs;word3abc;");
        // From 0 to 1 it is 10, from 0 to 3 it is 7, from 1 to 3 it is 9.
        for (int d = 0; d <= 9; d++) {
            due("mixed up by " + d, x.mixed(0, d, 0, 3), d < 7 ? 0 : d < 9 ? 1 : 2);
        }
        due("0 and 1 alone", x.mixed(0, 9, 0, 1), 0);
        due("without a name", x.mixed(0, 9, 2, 3), 0);
        due("a pair counts once", told("word5a;word6a;").mixed(0, 0, 5, 6), 1);
        due("three make three pairs", told("for 5 to 7 by 2:a;").mixed(0, 0, 5, 7), 3);
        due("from a on", told("for 5 to 7 by 2:a;").mixed(0, 0, 6, 9), 1);
        due("up to b", told("for 5 to 7 by 2:a;").mixed(0, 0, 0, 6), 1);
    }

    // ---- "A SQUARE of m, u, v: .. (all 0 .. 999; else none)"

    private static void squares() {
        NumberWords x = told("for 0 to 999 by 2:a;");
        int[][] holds = {
            {0, 0, 0}, {999, 0, 0}, {500, 499, 0}, {500, 0, 499}, {500, -499, 0}, {500, 0, -499}, {499, 499, 0},
            {4, 3, 1}, {4, 1, 3}, {4, -3, -1}, {4, -1, -3}, {4, 3, -1}, {4, -3, 1}, {995, 3, 1}, {995, -1, -3},
            {995, 2, -2}, {500, 250, 249}, {500, -250, 249}
        };
        for (int[] s : holds) {
            due("square of " + s[0] + ", " + s[1] + ", " + s[2], x.square(0, s[0], s[1], s[2]), 1);
        }
        int[][] none = {
            {0, 1, 0}, {0, 0, 1}, {0, -1, 0}, {0, 0, -1}, {999, 1, 0}, {999, 0, 1}, {999, -1, 0}, {999, 0, -1},
            {500, 500, 0}, {500, 0, 500}, {499, 500, 0}, {499, 0, -500}, {3, 3, 1}, {3, 1, 3}, {3, -3, -1}, {3, 3, -1},
            {996, 3, 1}, {996, -3, -1}, {996, -3, 1}, {500, 250, 250}, {500, -250, 250}, {500, 999, 999},
            {500, -999, -999}, {500, 999, -999}, {999, 999, 999}, {0, -999, -999}
        };
        for (int[] s : none) {
            due("no square of " + s[0] + ", " + s[1] + ", " + s[2], x.square(0, s[0], s[1], s[2]), NONE);
        }
        // One of the nine without a NAME.
        String nine = "for 1 to 9 by 2:a;";
        due("nine names", told(nine).square(0, 5, 3, 1), 1);
        for (int n = 1; n <= 9; n++) {
            String gap = "for " + n + " to " + n + " by " + (n + 1) + ":#r;" + nine;
            due("no name of " + n, told(gap).square(0, 5, 3, 1), 0);
        }
    }

    /** "LETTERS of each row, each column, both diagonals have one sum": of all squares of one to three letters. */
    private static void squaresOfLetters() {
        int[] places = {8, 1, 6, 3, 5, 7, 4, 9, 2};
        int[] l = new int[9];
        NumberWords x = new NumberWords();
        for (int code = 0; code < 19683; code++) {
            if (code % 32 == 0) {
                // Long before its 512th call.
                x = new NumberWords();
            }
            StringBuilder text = new StringBuilder();
            for (int i = 0, left = code; i < 9; i++, left /= 3) {
                l[i] = 1 + left % 3;
                text.append("word").append(places[i]).append("a".repeat(l[i])).append(';');
            }
            int sum = l[0] + l[1] + l[2];
            boolean rows = l[3] + l[4] + l[5] == sum && l[6] + l[7] + l[8] == sum;
            boolean columns = l[0] + l[3] + l[6] == sum && l[1] + l[4] + l[7] == sum && l[2] + l[5] + l[8] == sum;
            boolean diagonals = l[0] + l[4] + l[8] == sum && l[2] + l[4] + l[6] == sum;
            Checks.readText(x, 0, text.toString());
            due("square by " + text, x.square(0, 5, 3, 1), rows && columns && diagonals ? 1 : 0);
        }
    }

    /** "THE DRAFT is READ (as it is) in the one: the least NUMBER; its NAME in the other". */
    private static void led() {
        NumberWords x = told("word5ab;word9ab;for 6 to 6 by 2:a b;");
        Checks.readText(x, 1, "word5five;word6six;word9nine;");
        Checks.writeDraft(x, "ab");
        due("the least", x.led(0, 1, 0), 'f');
        Checks.writeDraft(x, "a b");
        due("as it is", x.led(0, 1, 0), 's');
        Checks.writeDraft(x, "a  b");
        due("no number so", x.led(0, 1, 0), NumberWords.NOT);
        Checks.writeDraft(x, "ab ");
        due("no number so, either", x.led(0, 1, 0), NumberWords.NOT);
    }
}
