/**
 * The boundary cases of the promises 1 to 26, one method for each: the last value of each argument that is
 * allowed and the first that is not, and what is answered where there is nothing, one thing or everything.
 */
public final class CallBoundaryTest {
    private static final int NONE = NumberWords.NONE, UNKNOWN = NumberWords.UNKNOWN;
    private static final int OUTSIDE = NumberWords.OUTSIDE, NOT = NumberWords.NOT, FULL = NumberWords.FULL;
    private static final int LEAST = Integer.MIN_VALUE, GREATEST = Integer.MAX_VALUE;
    private static final Checks CHECKS = new Checks();

    private static final String TWELVE = "abcdefghijkl";
    private static final String SIXTY = TWELVE + " " + TWELVE + " " + TWELVE + " " + TWELVE + " abcdefgh";
    /** 5 has a NAME of sixty bytes. */
    private static final String LONG_NAME = "word1" + TWELVE + ";for 5 to 5 by 2:#r#r#r#r abcdefgh;";
    private static final String ALL_A = "for 0 to 999 by 2:a;";
    /** 0 and 999 have NAMES, and no other NUMBER. */
    private static final String BOTH_ENDS = "word0zero;word999most;";
    private static final String NOTHING = "for 0 to 0 by 2:[x];";

    public static void main(String[] args) {
        newObject();
        feedCount();
        feedBytes();
        feedUpTo240();
        feedAgain();
        read();
        readKeepsOnFault();
        fault();
        about();
        name();
        letters();
        by();
        deep();
        uses();
        first();
        song();
        order();
        place();
        twins();
        write();
        writeUpTo60();
        clear();
        find();
        nearest();
        led();
        chain();
        honest();
        far();
        mixed();
        square();
        squares();
        upTo512Calls();
        CHECKS.end();
    }

    private static void due(String what, long got, long want) {
        CHECKS.due(what, got, want);
    }

    private static NumberWords told(String text) {
        return CHECKS.told(text);
    }

    private static NumberWords drafted(String text, String draft) {
        NumberWords x = told(text);
        Checks.writeDraft(x, draft);
        return x;
    }

    // ---- promise 1: "No tongue has words; THE DRAFT is empty."

    private static void newObject() {
        NumberWords x = new NumberWords();
        for (int tongue = 0; tongue <= 2; tongue++) {
            due("clauses", x.about(tongue, 0), 0);
            due("names", x.about(tongue, 1), 0);
            due("name of 0", x.name(tongue, 0, NONE), NONE);
            due("name of 999", x.name(tongue, 999, NONE), NONE);
            due("the empty draft is no name", x.find(tongue, false, NONE), 0);
        }
        due("bytes of the text", x.about(0, 5), 0);
        due("bytes of the draft", x.about(0, 6), 0);
        due("the draft had none", x.clear(), 0);
        due("no read, no fault", x.fault(), NONE);
        due("the text is empty", x.read(0), 0);
        // What one object is told another one does not know.
        NumberWords y = told("word 5 a;");
        due("names of another", x.about(0, 1), 0);
        due("names of its own", y.about(0, 1), 1);
    }

    // ---- promise 2: "Up to eight bytes (n 1 .. 8) of a long, the highest of these first, come behind THE TEXT"

    private static void feedCount() {
        NumberWords x = new NumberWords();
        due("0 bytes", x.feed(0, -1), OUTSIDE);
        due("1 byte", x.feed(1, 'w'), 1);
        due("8 bytes", x.feed(8, 0x2020202020202020L), 9);
        due("9 bytes", x.feed(9, 0), OUTSIDE);
        due("-1 bytes", x.feed(-1, 0), OUTSIDE);
        due("the least int", x.feed(LEAST, 0), OUTSIDE);
        due("the greatest int", x.feed(GREATEST, 0), OUTSIDE);
        due("the text", x.about(0, 5), 9);
        for (int n = 1; n <= 8; n++) {
            due(n + " bytes", new NumberWords().feed(n, -1), n);
        }
    }

    private static void feedBytes() {
        // Each length: the n lowest bytes, the highest of them first; what is above them is not fed.
        String text = "word 5 abcdefghijkl;word 6 xyz; ";
        for (int n = 1; n <= 8; n++) {
            NumberWords x = new NumberWords();
            for (int from = 0; from < text.length(); from += n) {
                int count = Math.min(n, text.length() - from);
                long bytes = 0x3F3F3F3F3F3F3F3FL;
                for (int i = from; i < from + count; i++) {
                    bytes = bytes << 8 | text.charAt(i);
                }
                due("fed by " + n, x.feed(count, bytes), from + count);
            }
            due("read, fed by " + n, x.read(0), 2);
            CHECKS.due("name, fed by " + n, Checks.nameText(x, 0, 5), TWELVE);
        }
        // Bytes of 128 and more are bytes like others: none of them can stand anywhere.
        NumberWords x = new NumberWords();
        due("the highest bit", x.feed(8, Long.MIN_VALUE), 8);
        due("it cannot stand", x.read(0), -11);
        due("its place", x.fault(), 0);
        due("all bits", x.feed(2, 0x20FFL), 2);
        due("it cannot stand", x.read(0), -11);
        due("its place", x.fault(), 1);
        due("the byte 0", x.feed(1, 0), 1);
        due("it cannot stand", x.read(0), -11);
    }

    private static void feedUpTo240() {
        for (int n = 1; n <= 8; n++) {
            NumberWords x = new NumberWords();
            Checks.feedText(x, " ".repeat(241 - n));
            due("one byte too many by " + n, x.feed(n, 0x2020202020202020L), FULL);
            due("none of them came", x.about(0, 5), 241 - n);
            NumberWords y = new NumberWords();
            Checks.feedText(y, " ".repeat(240 - n));
            due("the last bytes by " + n, y.feed(n, 0x2020202020202020L), 240);
            for (int more = 1; more <= 8; more++) {
                due("more bytes", y.feed(more, 0x2020202020202020L), FULL);
            }
            due("it stays full", y.about(0, 5), 240);
        }
        NumberWords z = new NumberWords();
        Checks.feedText(z, " ".repeat(225) + "word 999 last");
        due("what does not fit", z.feed(3, 0x3F3F3FL), FULL);
        due("what fits", z.feed(2, 0x203BL), 240);
        due("is read", z.read(0), 1);
        CHECKS.due("as it was fed", Checks.nameText(z, 0, 999), "last");
    }

    private static void feedAgain() {
        NumberWords x = new NumberWords();
        Checks.feedText(x, " ".repeat(240));
        due("read", x.read(0), 0);
        due("there is room again", x.feed(8, 0x2020202020202020L), 8);
        Checks.feedText(x, "?".repeat(232));
        due("full again", x.feed(1, 32), FULL);
        due("a fault", x.read(0), -11);
        due("there is room behind a fault, too", x.feed(1, 32), 1);
        // A shorter text ends where it ends, whatever was fed ahead of it.
        NumberWords y = new NumberWords();
        Checks.readText(y, 0, "word 5 abc;word 6 abc;");
        due("shorter by a byte", Checks.readText(y, 0, "word 5 abc;word 6 abc"), -11);
        due("its end", y.fault(), 21);
        due("shorter by a word", Checks.readText(y, 0, "word 5 abc;"), 1);
    }

    // ---- promise 3: "THE TEXT (it is empty then) becomes a TONGUE: how many clauses; .."

    private static void read() {
        NumberWords x = new NumberWords();
        due("of 0 bytes", x.read(0), 0);
        for (int tongue = 0; tongue <= 2; tongue++) {
            due("one clause", Checks.readText(x, tongue, "word" + tongue + "a;"), 1);
            due("the text is empty then", x.about(tongue, 5), 0);
            for (int other = 0; other <= 2; other++) {
                due("names of " + other, x.about(other, 1), other <= tongue ? 1 : 0);
            }
        }
        StringBuilder twelve = new StringBuilder();
        for (int n = 0; n < 12; n++) {
            twelve.append("word").append(n).append("a;");
        }
        due("twelve clauses", Checks.readText(x, 0, twelve.toString()), 12);
        String[] faulty = {
            "?", "word 1000 a;", "word 5 a;word 5 a;", "word 5 abcdefghijklm;", twelve + "word",
            "for 1 to 5 by 2:a b c d e f g h i;"
        };
        for (int i = 0; i < faulty.length; i++) {
            due("fault " + (i + 1), Checks.readText(x, 0, faulty[i]), -11 - i);
            due("the text is empty then", x.about(0, 5), 0);
            due("the tongue is as it was", x.about(0, 0), 12);
        }
        int[] wrong = {-1, 3, LEAST, GREATEST};
        Checks.feedText(x, "word 7 b;");
        for (int tongue : wrong) {
            due("tongue " + tongue, x.read(tongue), UNKNOWN);
            due("THE TEXT stays", x.about(0, 5), 9);
        }
        due("and can be read", x.read(0), 1);
        CHECKS.due("its name", Checks.nameText(x, 0, 7), "b");
        due("the names ahead of it are gone", x.about(0, 1), 1);
        due("an empty text takes them all", x.read(0), 0);
        due("no names", x.about(0, 1), 0);
        due("no names, no greatest", x.about(0, 2), NONE);
    }

    /** "(it is as it was)": the names, what was sought in them before, and what is sought in them first. */
    private static void readKeepsOnFault() {
        for (int sought = 0; sought <= 1; sought++) {
            NumberWords x = told("word 9 a;word 5 b;word 7 b;");
            Checks.readText(x, 1, "word 1 c;word 2 c;");
            if (sought == 1) {
                due("order", x.order(0, 0), 9);
                due("twins", x.twins(0, 0), 5);
                due("twins of another", x.twins(1, 0), 1);
            }
            due("a fault", Checks.readText(x, 0, "word 1 z;word 3 z;?"), -11);
            due("clauses", x.about(0, 0), 3);
            due("names", x.about(0, 1), 3);
            due("order", x.order(0, 0), 9);
            due("order, the last", x.order(0, 2), 7);
            due("place", x.place(0, 7), 2);
            due("lesser twin", x.twins(0, 0), 5);
            due("greater twin", x.twins(0, 1), 7);
            due("twins", x.twins(0, 2), 2);
            due("by", x.by(0, 7), 2);
            CHECKS.due("name", Checks.nameText(x, 0, 9), "a");
            CHECKS.due("no other name", Checks.nameText(x, 0, 1), "-");
            due("another tongue", x.twins(1, 1), 2);
            // Told anew, it is ordered anew.
            due("another text", Checks.readText(x, 0, "word 4 y;word 3 x;word 8 y;"), 3);
            due("order", x.order(0, 0), 3);
            due("lesser twin", x.twins(0, 0), 4);
            due("greater twin", x.twins(0, 1), 8);
            due("twins", x.twins(0, 2), 2);
            due("by none", x.by(0, 9), NONE);
            due("a text without twins", Checks.readText(x, 0, "word 4 y;"), 1);
            due("no lesser twin", x.twins(0, 0), NONE);
            due("no greater twin", x.twins(0, 1), NONE);
            due("no twins", x.twins(0, 2), 0);
            due("the other tongue stays", x.twins(1, 1), 2);
        }
    }

    // ---- promise 4: "The byte of the FAULT of the latest read() that was not UNKNOWN; NONE."

    private static void fault() {
        NumberWords x = new NumberWords();
        due("no read", x.fault(), NONE);
        due("a read that is UNKNOWN", x.read(3), UNKNOWN);
        due("does not count", x.fault(), NONE);
        due("a fault at byte 0", Checks.readText(x, 0, "?"), -11);
        due("its byte", x.fault(), 0);
        due("a read that is UNKNOWN", x.read(-1), UNKNOWN);
        due("does not count", x.fault(), 0);
        due("a fault at byte 240", Checks.readText(x, 1, " ".repeat(236) + "word"), -11);
        due("its byte", x.fault(), 240);
        due("asked again", x.fault(), 240);
        due("feeding does not count", x.feed(1, '?'), 1);
        due("still", x.fault(), 240);
        due("the latest counts", x.read(2), -11);
        due("its byte", x.fault(), 0);
        due("no fault", x.read(2), 0);
        due("none", x.fault(), NONE);
    }

    // ---- promise 5: "Of a TONGUE: what = 0 clauses, 1 NUMBERS that have a NAME, 2 the greatest such (NONE), .."

    private static void about() {
        NumberWords none = new NumberWords();
        NumberWords all = told(ALL_A);
        int[] ofNone = {0, 0, NONE, 0, 0, 0, 0};
        int[] ofAll = {1, 1000, 999, NONE, 1, 0, 0};
        for (int what = 0; what <= 6; what++) {
            due("of none, " + what, none.about(0, what), ofNone[what]);
            due("of all, " + what, all.about(0, what), ofAll[what]);
        }
        due("the greatest is 0", told("word0a;").about(0, 2), 0);
        due("the least without is 1", told("word0a;").about(0, 3), 1);
        due("the greatest is 999", told("word999a;").about(0, 2), 999);
        due("the least without is 0", told("word999a;").about(0, 3), 0);
        due("the least without is 999", told("for 0 to 998 by 2:a;").about(0, 3), 999);
        due("the greatest is 998", told("for 0 to 998 by 2:a;").about(0, 2), 998);
        // A clause that names no NUMBER is a clause.
        due("clauses", told("for 5 to 5 by 5:#t;").about(0, 0), 1);
        due("names", told("for 5 to 5 by 5:#t;").about(0, 1), 0);
        due("no honest one", told("word5a;").about(0, 4), 0);
        NumberWords full = new NumberWords();
        Checks.feedText(full, " ".repeat(240));
        Checks.writeDraft(full, " ".repeat(60));
        for (int tongue = 0; tongue <= 2; tongue++) {
            due("bytes of the full text", full.about(tongue, 5), 240);
            due("bytes of the full draft", full.about(tongue, 6), 60);
        }
        int[] wrongWhat = {-1, 7, LEAST, GREATEST};
        for (int what : wrongWhat) {
            due("what " + what, all.about(0, what), OUTSIDE);
        }
        int[] wrongTongue = {-1, 3, LEAST, GREATEST};
        for (int tongue : wrongTongue) {
            due("tongue " + tongue, all.about(tongue, 5), UNKNOWN);
            due("tongue " + tongue + " and what", all.about(tongue, 7), UNKNOWN);
        }
    }

    // ---- promise 6: "Byte i of a NAME; i = NONE: how many it has; NONE: it has not so many, or there is none."

    private static void name() {
        NumberWords x = told(LONG_NAME + NOTHING + "word999z;");
        due("how many", x.name(0, 5, NONE), 60);
        for (int i = 0; i < 60; i++) {
            due("byte " + i, x.name(0, 5, i), SIXTY.charAt(i));
        }
        int[] beyond = {60, 61, 64, 1000, GREATEST, -2, -60, LEAST};
        for (int i : beyond) {
            due("byte " + i, x.name(0, 5, i), NONE);
            due("byte " + i + " of nothing", x.name(0, 0, i), NONE);
            due("byte " + i + " of no name", x.name(0, 6, i), NONE);
        }
        due("one byte", x.name(0, 999, NONE), 1);
        due("it", x.name(0, 999, 0), 'z');
        due("behind it", x.name(0, 999, 1), NONE);
        due("nothing", x.name(0, 0, NONE), 0);
        due("no byte 0", x.name(0, 0, 0), NONE);
        due("no name", x.name(0, 6, NONE), NONE);
        due("no name, no byte", x.name(0, 6, 0), NONE);
        dueNumbersAndTongues("name");
    }

    // ---- promises 7, 8, 9: "NONE: no NAME. UNKNOWN."

    private static void letters() {
        NumberWords x = told(BOTH_ENDS);
        due("of 0", x.letters(0, 0), 4);
        due("of 999", x.letters(0, 999), 4);
        due("no name", x.letters(0, 1), NONE);
        due("nothing is a name", told(NOTHING).letters(0, 0), 0);
        due("the most", told(LONG_NAME).letters(0, 5), 56);
        dueNumbersAndTongues("letters");
    }

    private static void by() {
        StringBuilder twelve = new StringBuilder("for 0 to 99 by 2:b;");
        for (int n = 1; n < 12; n++) {
            twelve.append("word").append(n).append("a;");
        }
        NumberWords x = told(twelve.toString());
        due("clause 0", x.by(0, 0), 0);
        for (int n = 1; n < 12; n++) {
            due("clause of " + n, x.by(0, n), n);
        }
        due("clause 0 again", x.by(0, 12), 0);
        due("no name", x.by(0, 100), NONE);
        due("a clause, but no name", told("for 5 to 5 by 5:#t;").by(0, 5), NONE);
        due("of 999", told(BOTH_ENDS).by(0, 999), 1);
        dueNumbersAndTongues("by");
    }

    private static void deep() {
        NumberWords x = told("word1a;for 2 to 999 by 2:#q;");
        due("a word", x.deep(0, 1), 1);
        due("letters alone", told("for 2 to 2 by 2:a b c d e f g h;").deep(0, 2), 1);
        due("two", x.deep(0, 2), 2);
        due("eight", x.deep(0, 255), 8);
        due("nine", x.deep(0, 256), NONE);
        due("no name", x.deep(0, 0), NONE);
        dueNumbersAndTongues("deep");
    }

    /** The bounds of TONGUES and NUMBERS for the calls that take one of each. */
    private static void dueNumbersAndTongues(String call) {
        NumberWords x = told(ALL_A);
        Checks.readText(x, 1, ALL_A);
        Checks.readText(x, 2, ALL_A);
        for (int tongue = 0; tongue <= 2; tongue++) {
            due(call + " of 0", ask(x, call, tongue, 0) >= 0 ? 1 : 0, 1);
            due(call + " of 999", ask(x, call, tongue, 999) >= 0 ? 1 : 0, 1);
            for (int n : new int[] {-1, 1000, LEAST, GREATEST}) {
                due(call + " of " + n, ask(x, call, tongue, n), UNKNOWN);
            }
        }
        for (int tongue : new int[] {-1, 3, LEAST, GREATEST}) {
            due(call + " in tongue " + tongue, ask(x, call, tongue, 0), UNKNOWN);
            due(call + " in tongue " + tongue, ask(x, call, tongue, 1000), UNKNOWN);
        }
    }

    private static int ask(NumberWords x, String call, int tongue, int n) {
        return switch (call) {
            case "name" -> x.name(tongue, n, 0);
            case "letters" -> x.letters(tongue, n);
            case "by" -> x.by(tongue, n);
            case "deep" -> x.deep(tongue, n);
            case "place" -> x.place(tongue, n);
            case "chain" -> x.chain(tongue, n, 0);
            case "far" -> x.far(tongue, n, 7);
            case "far, turned" -> x.far(tongue, 7, n);
            default -> x.song(tongue, n, n);
        };
    }

    // ---- promise 10: "How often a letter (0 .. 25) comes in NAMES from a to b, all together; .."

    private static void uses() {
        NumberWords x = told("word0az;word999za;word998a;");
        due("letter 0", x.uses(0, 0, 0, 999), 3);
        due("letter 25", x.uses(0, 25, 0, 999), 2);
        for (int letter : new int[] {-1, 26, LEAST, GREATEST, 'a'}) {
            due("letter " + letter, x.uses(0, letter, 0, 999), OUTSIDE);
        }
        due("0 alone", x.uses(0, 0, 0, 0), 1);
        due("999 alone", x.uses(0, 0, 999, 999), 1);
        due("from a on", x.uses(0, 0, 1, 999), 2);
        due("up to b", x.uses(0, 0, 0, 998), 2);
        due("without names", x.uses(0, 0, 1, 997), 0);
        due("b below a by one", x.uses(0, 0, 1, 0), OUTSIDE);
        due("b below a by all", x.uses(0, 0, 999, 0), OUTSIDE);
        due("a of -1", x.uses(0, 0, -1, 0), UNKNOWN);
        due("a of 1000", x.uses(0, 0, 1000, 999), UNKNOWN);
        due("b of -1", x.uses(0, 0, 0, -1), UNKNOWN);
        due("b of 1000", x.uses(0, 0, 0, 1000), UNKNOWN);
        due("tongue 3", x.uses(3, 0, 0, 0), UNKNOWN);
        due("tongue -1", x.uses(-1, 0, 0, 0), UNKNOWN);
        due("a blank is no letter", told("for 5 to 5 by 2:a b a;").uses(0, 0, 5, 5), 2);
        // 1000 NAMES of five words of five letters.
        NumberWords y = told("for 0 to 999 by 2:aaaaa aaaaa aaaaa aaaaa aaaaa;");
        due("the sum of many", y.uses(0, 0, 0, 999), 25000);
        due("another letter", y.uses(0, 1, 0, 999), 0);
    }

    // ---- promise 11: "The least NUMBER whose NAME has a letter; NONE."

    private static void first() {
        NumberWords x = told("word0z;word5a;word999m;word7za;");
        due("letter 0", x.first(0, 0), 5);
        due("letter 25", x.first(0, 25), 0);
        due("in 999 alone", x.first(0, 'm' - 'a'), 999);
        due("in none", x.first(0, 1), NONE);
        due("without names", x.first(1, 0), NONE);
        for (int letter : new int[] {-1, 26, LEAST, GREATEST, 'a'}) {
            due("letter " + letter, x.first(0, letter), OUTSIDE);
            due("letter " + letter + " without names", x.first(1, letter), OUTSIDE);
        }
        due("tongue 3", x.first(3, 0), UNKNOWN);
        due("tongue -1", x.first(-1, 26), UNKNOWN);
        due("the last byte of sixty", told(LONG_NAME.replace("abcdefgh;", "abcdefgz;")).first(0, 25), 5);
    }

    // ---- promise 12: "LETTERS from a to b all together (of those that have NAMES)."

    private static void song() {
        NumberWords x = told(BOTH_ENDS + "word998abc;");
        due("all", x.song(0, 0, 999), 11);
        due("0 alone", x.song(0, 0, 0), 4);
        due("999 alone", x.song(0, 999, 999), 4);
        due("from a on", x.song(0, 1, 999), 7);
        due("up to b", x.song(0, 0, 998), 7);
        due("without names", x.song(0, 1, 997), 0);
        due("a tongue without names", x.song(1, 0, 999), 0);
        due("b below a by one", x.song(0, 1, 0), OUTSIDE);
        due("b below a by all", x.song(0, 999, 0), OUTSIDE);
        due("a of -1", x.song(0, -1, 0), UNKNOWN);
        due("a of 1000", x.song(0, 1000, 999), UNKNOWN);
        due("b of -1", x.song(0, 0, -1), UNKNOWN);
        due("b of 1000", x.song(0, 0, 1000), UNKNOWN);
        due("tongue 3", x.song(3, 0, 0), UNKNOWN);
        due("tongue -1", x.song(-1, 1, 0), UNKNOWN);
        String most = "for 0 to 999 by 2:" + SIXTY + ";";
        due("56 letters of each", told(most).song(0, 0, 999), 56000);
        dueNumbersAndTongues("song");
    }

    // ---- promises 13, 14: "The i-th in ORDER; NONE: there is none such.", "The place of n in ORDER; .."

    private static void order() {
        NumberWords x = told("word0b;word999a;word5c;");
        int[] due = {999, 0, 5};
        for (int i = 0; i < due.length; i++) {
            due("order of " + i, x.order(0, i), due[i]);
        }
        for (int i : new int[] {3, 4, 1000, GREATEST, -1, -2, LEAST}) {
            due("order of " + i, x.order(0, i), NONE);
            due("order of " + i + " without names", x.order(1, i), NONE);
        }
        due("without names", x.order(1, 0), NONE);
        due("one alone, the first", told("word7a;").order(0, 0), 7);
        due("one alone, no second", told("word7a;").order(0, 1), NONE);
        NumberWords all = told(ALL_A);
        due("the first of all", all.order(0, 0), 0);
        due("the last of all", all.order(0, 999), 999);
        due("behind all", all.order(0, 1000), NONE);
        due("tongue 3", x.order(3, 0), UNKNOWN);
        due("tongue -1", x.order(-1, -1), UNKNOWN);
    }

    private static void place() {
        NumberWords x = told("word0b;word999a;word5c;");
        due("the first", x.place(0, 999), 0);
        due("the second", x.place(0, 0), 1);
        due("the last", x.place(0, 5), 2);
        due("no name", x.place(0, 1), NONE);
        due("without names", x.place(1, 0), NONE);
        due("the last of all", told(ALL_A).place(0, 999), 999);
        // Fewer names than before: no place of an older order is left.
        Checks.readText(x, 0, "word0b;");
        due("the only one", x.place(0, 0), 0);
        due("none any more", x.place(0, 5), NONE);
        dueNumbersAndTongues("place");
    }

    // ---- promise 15: "THE FIRST TWINS: what = 0 the lesser, 1 the greater one, 2 how many NUMBERS have a twin; .."

    private static void twins() {
        NumberWords x = told("word0a;word999a;");
        due("the lesser", x.twins(0, 0), 0);
        due("the greater", x.twins(0, 1), 999);
        due("how many", x.twins(0, 2), 2);
        due("no lesser one", x.twins(1, 0), NONE);
        due("no greater one", x.twins(1, 1), NONE);
        due("how many of none", x.twins(1, 2), 0);
        NumberWords y = told("word0a;word999b;");
        due("no lesser one of two", y.twins(0, 0), NONE);
        due("no greater one of two", y.twins(0, 1), NONE);
        due("how many of two", y.twins(0, 2), 0);
        for (int what : new int[] {-1, 3, LEAST, GREATEST}) {
            due("what " + what, x.twins(0, what), OUTSIDE);
            due("what " + what + " without twins", y.twins(0, what), OUTSIDE);
            due("what " + what + ", tongue 3", x.twins(3, what), UNKNOWN);
        }
        due("tongue -1", x.twins(-1, 0), UNKNOWN);
        due("all of one run", told(ALL_A).twins(0, 2), 1000);
    }

    // ---- promises 16, 17: "A byte of THE DRAFT (a .. z as 97 .. 122, a blank as 32): how many it has."

    private static void write() {
        NumberWords x = new NumberWords();
        int size = 0;
        for (int c = -300; c <= 600; c++) {
            boolean allowed = c == 32 || c >= 97 && c <= 122;
            size += allowed ? 1 : 0;
            if (c >= 31 && c <= 128 || c % 16 == 0) {
                due("write " + c, x.write(c), allowed ? size : OUTSIDE);
            }
        }
        due("the least int", x.write(LEAST), OUTSIDE);
        due("the greatest int", x.write(GREATEST), OUTSIDE);
        due("97 in the lowest byte", x.write(256 + 97), OUTSIDE);
        due("97 less 256", x.write(97 - 256), OUTSIDE);
        due("32 and 256", x.write(256 + 32), OUTSIDE);
        due("so many", x.about(0, 6), 27);
    }

    private static void writeUpTo60() {
        NumberWords x = told(LONG_NAME);
        for (int i = 0; i < 60; i++) {
            due("byte " + i, x.write(SIXTY.charAt(i)), i + 1);
        }
        due("one letter more", x.write('a'), FULL);
        due("one blank more", x.write(32), FULL);
        due("OUTSIDE ahead of FULL", x.write(96), OUTSIDE);
        due("still sixty", x.about(0, 6), 60);
        due("still the same", x.find(0, false, 0), 5);
        due("still the same run", x.find(0, true, 0), 5);
        due("it had sixty", x.clear(), 60);
        due("it has room again", x.write('a'), 1);
        NumberWords y = new NumberWords();
        Checks.writeDraft(y, " ".repeat(60));
        due("sixty blanks are full, too", y.write('a'), FULL);
        due("they are sixty", y.clear(), 60);
    }

    private static void clear() {
        NumberWords x = told("word5a;" + NOTHING);
        due("nothing to clear", x.clear(), 0);
        x.write('a');
        due("one byte", x.clear(), 1);
        due("it is empty", x.about(0, 6), 0);
        due("the empty name is found", x.find(0, false, 0), 0);
        due("by its run, too", x.find(0, true, 0), 0);
        due("nearest to nothing", x.nearest(0, 0), 0);
        due("once more", x.clear(), 0);
        Checks.writeDraft(x, "a ");
        due("blanks count", x.clear(), 2);
        x.write('a');
        due("nothing is left of the older draft", x.find(0, false, 0), 5);
        due("nor of its run", x.find(0, true, 0), 5);
    }

    // ---- promise 18: "READ: run = whether without blanks; i = NONE how many, else the i-th (the lesser ahead); NONE."

    private static void find() {
        NumberWords x = drafted("word999a;word0a;word5b;", "a");
        for (int k = 0; k <= 1; k++) {
            boolean run = k == 1;
            due("how many", x.find(0, run, NONE), 2);
            due("the lesser", x.find(0, run, 0), 0);
            due("the greater", x.find(0, run, 1), 999);
            for (int i : new int[] {2, 3, 1000, GREATEST, -2, LEAST}) {
                due("the one of " + i, x.find(0, run, i), NONE);
                due("the one of " + i + " without names", x.find(1, run, i), NONE);
            }
            due("how many without names", x.find(1, run, NONE), 0);
            due("none without names", x.find(1, run, 0), NONE);
            for (int tongue : new int[] {-1, 3, LEAST, GREATEST}) {
                due("tongue " + tongue, x.find(tongue, run, NONE), UNKNOWN);
                due("tongue " + tongue, x.find(tongue, run, 0), UNKNOWN);
            }
            NumberWords all = drafted(ALL_A, "a");
            due("all", all.find(0, run, NONE), 1000);
            due("the last of all", all.find(0, run, 999), 999);
            due("behind all", all.find(0, run, 1000), NONE);
        }
        NumberWords empty = told(NOTHING + "word5a;");
        due("the empty draft", empty.find(0, false, NONE), 1);
        due("the empty draft as a run", empty.find(0, true, 0), 0);
        empty.write(32);
        due("a blank", empty.find(0, false, NONE), 0);
        due("a blank, none", empty.find(0, false, 0), NONE);
        due("a blank as a run", empty.find(0, true, NONE), 1);
    }

    // ---- promise 19: "NEAREST to THE DRAFT: what = 0 the NUMBER, 1 how FAR; NONE: no NAMES."

    private static void nearest() {
        NumberWords x = drafted("word999a;", "a");
        due("the only one", x.nearest(0, 0), 999);
        due("0 away", x.nearest(0, 1), 0);
        due("no names, no number", x.nearest(1, 0), NONE);
        due("no names, no way", x.nearest(1, 1), NONE);
        for (int what : new int[] {-1, 2, LEAST, GREATEST}) {
            due("what " + what, x.nearest(0, what), OUTSIDE);
            due("what " + what + " without names", x.nearest(1, what), OUTSIDE);
            due("what " + what + ", tongue 3", x.nearest(3, what), UNKNOWN);
        }
        due("tongue -1", x.nearest(-1, 0), UNKNOWN);
        due("0 of all", drafted(ALL_A, "b").nearest(0, 0), 0);
        due("0 of all, one away", drafted(ALL_A, "b").nearest(0, 1), 1);
        due("all of sixty bytes", drafted(ALL_A, "b".repeat(60)).nearest(0, 1), 60);
        due("the empty draft", drafted(LONG_NAME, "").nearest(0, 0), 1);
        due("its way", drafted(LONG_NAME, "").nearest(0, 1), 12);
        due("56 letters", drafted(LONG_NAME, SIXTY).nearest(0, 0), 5);
        due("56 letters, 0 away", drafted(LONG_NAME, SIXTY).nearest(0, 1), 0);
    }

    // ---- promise 20: "LED from tongue a to b: i = NONE how many bytes, else byte i; NONE: there is none such. .."

    private static void led() {
        NumberWords x = drafted("word0a;word999a;word5b;" + "for 7 to 7 by 7:[x];", "a");
        Checks.readText(x, 1, LONG_NAME + "word0z;word7nothing;");
        Checks.readText(x, 2, "word999y;");
        due("how many bytes", x.led(0, 1, NONE), 1);
        due("byte 0", x.led(0, 1, 0), 'z');
        for (int i : new int[] {1, 60, GREATEST, -2, LEAST}) {
            due("byte " + i, x.led(0, 1, i), NONE);
        }
        due("only the greater one has a name there", x.led(0, 2, NONE), NOT);
        due("no number in a", x.led(1, 0, 0), NOT);
        due("no number in a, no such byte", x.led(1, 0, -2), NOT);
        due("no name in b", x.led(0, 2, 5), NOT);
        for (int tongue : new int[] {-1, 3, LEAST, GREATEST}) {
            due("from tongue " + tongue, x.led(tongue, 1, 0), UNKNOWN);
            due("to tongue " + tongue, x.led(0, tongue, 0), UNKNOWN);
            due("to tongue " + tongue + ", no number in a", x.led(1, tongue, 0), UNKNOWN);
        }
        due("into itself", x.led(0, 0, 0), 'a');
        Checks.writeDraft(x, "b");
        due("sixty bytes", x.led(0, 1, NONE), 60);
        due("the last", x.led(0, 1, 59), 'h');
        due("behind it", x.led(0, 1, 60), NONE);
        x.clear();
        due("the empty draft", x.led(0, 1, NONE), 7);
        due("no number of 0 bytes", x.led(1, 0, NONE), NOT);
        Checks.writeDraft(x, "nothing");
        due("to a name of 0 bytes", x.led(1, 0, NONE), 0);
        due("no byte of it", x.led(1, 0, 0), NONE);
        Checks.writeDraft(x, SIXTY);
        due("from sixty bytes", x.led(1, 0, 0), 'b');
    }

    // ---- promise 21: "THE CHAIN: what = 0 how many NUMBERS it has (each once), 1 the last one of these, 2 .."

    private static void chain() {
        NumberWords x = told("word0a;word1ab;word2abc;word999ab;");
        int[][] due = {{0, 4, 3, NONE}, {1, 3, 3, NONE}, {2, 2, 3, NONE}, {3, 1, 3, NONE}, {999, 3, 3, NONE}};
        for (int[] d : due) {
            for (int what = 0; what <= 2; what++) {
                due("chain of " + d[0] + ", " + what, x.chain(0, d[0], what), d[what + 1]);
            }
        }
        for (int what : new int[] {-1, 3, LEAST, GREATEST}) {
            due("what " + what, x.chain(0, 0, what), OUTSIDE);
            due("what " + what + " of no name", x.chain(0, 5, what), OUTSIDE);
            due("what " + what + " of 1000", x.chain(0, 1000, what), UNKNOWN);
            due("what " + what + ", tongue 3", x.chain(3, 0, what), UNKNOWN);
        }
        due("one that comes again at once", told("word1a;").chain(0, 1, 2), 1);
        due("it is one", told("word1a;").chain(0, 1, 0), 1);
        due("0 comes again", told(NOTHING).chain(0, 0, 2), 0);
        dueNumbersAndTongues("chain");
    }

    // ---- promise 22: "The i-th HONEST NUMBER; NONE."

    private static void honest() {
        NumberWords x = told(NOTHING + "word1a;word2a;word12" + TWELVE + ";");
        due("the first", x.honest(0, 0), 0);
        due("the second", x.honest(0, 1), 1);
        due("the last", x.honest(0, 2), 12);
        for (int i : new int[] {3, 4, 1000, GREATEST, -1, -2, LEAST}) {
            due("the one of " + i, x.honest(0, i), NONE);
            due("the one of " + i + " without names", x.honest(1, i), NONE);
        }
        due("none", x.honest(1, 0), NONE);
        due("names, but none honest", told("word5a;").honest(0, 0), NONE);
        due("tongue 3", x.honest(3, 0), UNKNOWN);
        due("tongue -1", x.honest(-1, -1), UNKNOWN);
    }

    // ---- promise 23: "How FAR two NAMES are by their RUNS; NONE: one has none."

    private static void far() {
        NumberWords x = told(BOTH_ENDS);
        due("0 and 999", x.far(0, 0, 999), 4);
        due("0 and 0", x.far(0, 0, 0), 0);
        due("the second has none", x.far(0, 0, 1), NONE);
        due("the first has none", x.far(0, 1, 0), NONE);
        due("none has one", x.far(0, 1, 2), NONE);
        due("one without a name and itself", x.far(0, 1, 1), NONE);
        due("without names", x.far(1, 0, 0), NONE);
        due("both out of bounds", x.far(0, 1000, -1), UNKNOWN);
        dueNumbersAndTongues("far");
        dueNumbersAndTongues("far, turned");
    }

    // ---- promise 24: "MIXED UP by d (0 .. 9), from a to b (b less a is 60 at most): how many pairs."

    private static void mixed() {
        NumberWords x = told(ALL_A);
        due("d 0", x.mixed(0, 0, 0, 1), 1);
        due("d 9", x.mixed(0, 9, 0, 1), 1);
        for (int d : new int[] {-1, 10, LEAST, GREATEST}) {
            due("d " + d, x.mixed(0, d, 0, 1), OUTSIDE);
            due("d " + d + " without names", x.mixed(1, d, 0, 1), OUTSIDE);
        }
        due("b less a is 0", x.mixed(0, 0, 5, 5), 0);
        due("b less a is 60", x.mixed(0, 0, 0, 60), 1830);
        due("b less a is 60 at the end", x.mixed(0, 0, 939, 999), 1830);
        due("b less a is 61", x.mixed(0, 0, 0, 61), OUTSIDE);
        due("b less a is 61 at the end", x.mixed(0, 0, 938, 999), OUTSIDE);
        due("b less a is 999", x.mixed(0, 0, 0, 999), OUTSIDE);
        due("b below a", x.mixed(0, 0, 5, 4), OUTSIDE);
        due("a of -1", x.mixed(0, 0, -1, 5), UNKNOWN);
        due("b of 1000", x.mixed(0, 0, 999, 1000), UNKNOWN);
        due("b of 1000, too far", x.mixed(0, 10, 0, 1000), UNKNOWN);
        due("a of 1000", x.mixed(0, 0, 1000, 999), UNKNOWN);
        due("b of -1", x.mixed(0, 0, 0, -1), UNKNOWN);
        due("least and greatest int", x.mixed(0, 0, LEAST, GREATEST), UNKNOWN);
        due("greatest and least int", x.mixed(0, 0, GREATEST, LEAST), UNKNOWN);
        due("tongue 3", x.mixed(3, 0, 0, 1), UNKNOWN);
        due("tongue -1", x.mixed(-1, 10, 0, 61), UNKNOWN);
        due("without names", x.mixed(1, 9, 0, 60), 0);
        due("0 and 999 are too far", told(BOTH_ENDS).mixed(0, 9, 999, 999), 0);
        NumberWords y = told("word5abcdefghi;word6abcdefghij;for 7 to 7 by 7:[x];");
        due("9 far, by 8", y.mixed(0, 8, 5, 7), 1);
        due("9 far, by 9; 10 far is too far", y.mixed(0, 9, 5, 7), 2);
    }

    // ---- promise 25: "A SQUARE: 0 it does not HOLD TWICE, 1 it does; NONE: there is none such. .."

    private static void square() {
        NumberWords x = told(ALL_A);
        due("it does", x.square(0, 500, 100, 10), 1);
        due("it does not", x.square(1, 500, 100, 10), 0);
        due("there is none", x.square(0, 0, 1, 0), NONE);
        due("there is none, without names", x.square(1, 0, 1, 0), NONE);
        due("m 0", x.square(0, 0, 0, 0), 1);
        due("m 999", x.square(0, 999, 0, 0), 1);
        for (int m : new int[] {-1, 1000, LEAST, GREATEST}) {
            due("m " + m, x.square(0, m, 0, 0), OUTSIDE);
            due("m " + m + ", tongue 3", x.square(3, m, 0, 0), UNKNOWN);
        }
        for (int step : new int[] {-999, 999}) {
            due("u " + step, x.square(0, 500, step, 0), NONE);
            due("v " + step, x.square(0, 500, 0, step), NONE);
            due("u and v " + step, x.square(0, 500, step, step), NONE);
        }
        for (int step : new int[] {-1000, 1000, LEAST, LEAST + 1, GREATEST}) {
            due("u " + step, x.square(0, 500, step, 0), OUTSIDE);
            due("v " + step, x.square(0, 500, 0, step), OUTSIDE);
            due("u " + step + " where there is none", x.square(0, 0, step, 999), OUTSIDE);
            due("tongue -1, u " + step, x.square(-1, 500, step, 0), UNKNOWN);
        }
    }

    // ---- promise 26: "The first SQUARE of m that HOLDS TWICE with nine unlike NUMBERS, u 1 .. 60, v 1 .. 60 .."

    private static void squares() {
        NumberWords x = told(ALL_A);
        due("the first: 1 and 1 or 2 have like numbers", x.squares(0, 500), 103);
        due("the least m", x.squares(0, 4), 103);
        due("too small", x.squares(0, 3), NONE);
        due("0", x.squares(0, 0), NONE);
        due("the greatest m", x.squares(0, 995), 103);
        due("too great", x.squares(0, 996), NONE);
        due("999", x.squares(0, 999), NONE);
        due("without names", x.squares(1, 500), NONE);
        for (int m : new int[] {-1, 1000, LEAST, GREATEST}) {
            due("m " + m, x.squares(0, m), UNKNOWN);
        }
        for (int tongue : new int[] {-1, 3, LEAST, GREATEST}) {
            due("tongue " + tongue, x.squares(tongue, 500), UNKNOWN);
        }
        due("u 1, v 60", told(nine(500, 1, 60)).squares(0, 500), 160);
        due("u 1, v 61", told(nine(500, 1, 61)).squares(0, 500), NONE);
        due("u 59, v 60", told(nine(500, 59, 60)).squares(0, 500), 5960);
        due("u 60, v 61", told(nine(500, 60, 61)).squares(0, 500), NONE);
        due("like numbers: v is u", told(nine(500, 7, 7)).squares(0, 500), NONE);
        due("like numbers: v is twice u", told(nine(500, 7, 14)).squares(0, 500), NONE);
        due("the lesser u ahead", told(nine(500, 30, 7)).squares(0, 500), 730);
        due("two squares", told("for 496 to 504 by 2:a;").squares(0, 500), 103);
        // 503 has no NAME, and 501 has none: both ask for what has none.
        due("the next v", told("for 503 to 503 by 4:#r;for 480 to 520 by 2:a;").squares(0, 500), 105);
        due("the next u", told("for 501 to 501 by 3:#t;for 400 to 600 by 2:a;").squares(0, 500), 205);
    }

    // ---- "An object is used for at most 512 calls after it has been made"

    private static void upTo512Calls() {
        NumberWords x = new NumberWords();
        due("call 1", x.feed(8, 0x776F72643561623BL), 8);
        due("call 2", x.read(0), 1);
        for (int call = 3; call <= 510; call++) {
            due("call " + call, x.feed(9, 0), OUTSIDE);
        }
        due("call 511", x.name(0, 5, NONE), 2);
        due("call 512", x.name(0, 5, 1), 'b');
    }

    /** A text with NAMES for just the nine of a square, all of one letter. */
    private static String nine(int m, int u, int v) {
        int[] all = {m + u, m - u - v, m + v, m - u + v, m, m + u - v, m - v, m + u + v, m - u};
        StringBuilder text = new StringBuilder();
        for (int n : all) {
            String word = "word" + n + "a;";
            text.append(text.indexOf(word) < 0 ? word : "");
        }
        return text.toString();
    }
}
