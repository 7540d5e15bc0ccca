/** The document's promises, one by one: ordinary inputs, the edges it names, wrong inputs. */
public final class PromiseTest {
    private static final int NONE = NumberWords.NONE, UNKNOWN = NumberWords.UNKNOWN;
    private static final int OUTSIDE = NumberWords.OUTSIDE, NOT = NumberWords.NOT, FULL = NumberWords.FULL;

    private static final String UNITS = "word0nil;word1one;word2two;word3three;word4four;";
    private static final String TENS = UNITS + "word10ten;word20twenty;for 11 to 14 by 10:#t #r;";
    private static final String BACKWARDS = UNITS + "word10ten;word20twenty;"
            + "for 11 to 14 by 10:#r and #t;for 16 to 19 by 10:#c from #n;";
    private static final String ALL_A = "for 0 to 999 by 2:a;";
    private static final String EMPTY_OR_A = "for 0 to 999 by 500:[a];";

    private static final Checks CHECKS = new Checks();

    public static void main(String[] args) {
        newObject();
        neverRead();
        feed();
        read();
        faultsOfPlace();
        faultsOfNumbers();
        faultsOfCounts();
        blanks();
        fault();
        about();
        name();
        nameParts();
        nameless();
        letters();
        by();
        deep();
        uses();
        first();
        song();
        order();
        place();
        twins();
        write();
        clear();
        find();
        nearest();
        led();
        chain();
        honest();
        far();
        mixed();
        square();
        squares();
        unknownAheadOfOutside();
        CHECKS.end();
    }

    private static void due(String what, long got, long want) {
        CHECKS.due(what, got, want);
    }

    private static NumberWords told(String text) {
        return CHECKS.told(text);
    }

    private static void dueName(String text, int n, String name) {
        CHECKS.dueName(text, n, name);
    }

    private static void dueFault(String text, int number, int place) {
        CHECKS.dueFault(text, number, place);
    }

    private static void dueSound(String text, int clauses) {
        CHECKS.dueSound(text, clauses);
    }

    private static String times(String part, int count) {
        return part.repeat(count);
    }

    private static void newObject() {
        NumberWords x = new NumberWords();
        for (int tongue = 0; tongue < 3; tongue++) {
            dueWordless("new", x, tongue);
        }
        due("new text", x.about(0, 5), 0);
        due("new draft", x.about(0, 6), 0);
        due("new fault", x.fault(), NONE);
        due("new clear", x.clear(), 0);
    }

    /** A tongue that no text was read into has no words, whatever befell the others or was refused. */
    private static void neverRead() {
        NumberWords x = new NumberWords();
        due("first tongue", Checks.readText(x, 0, EMPTY_OR_A), 1);
        due("a fault in the second", Checks.readText(x, 1, UNITS + "?"), -11);
        dueWordless("with a fault", x, 1);
        dueWordless("beside one that was read", x, 2);
        due("names of the first", x.about(0, 1), 1000);
        due("an empty text in the first", Checks.readText(x, 0, ""), 0);
        dueWordless("read again from an empty text", x, 0);
    }

    /** What every call answers of a tongue that has no words, THE DRAFT being empty. */
    private static void dueWordless(String which, NumberWords x, int tongue) {
        due(which + " clauses", x.about(tongue, 0), 0);
        due(which + " names", x.about(tongue, 1), 0);
        due(which + " greatest", x.about(tongue, 2), NONE);
        due(which + " least without", x.about(tongue, 3), 0);
        due(which + " honest ones", x.about(tongue, 4), 0);
        for (int n = 0; n < 1000; n += 111) {
            due(which + " name", x.name(tongue, n, NONE), NONE);
            due(which + " byte of a name", x.name(tongue, n, 0), NONE);
            due(which + " letters", x.letters(tongue, n), NONE);
            due(which + " by", x.by(tongue, n), NONE);
            due(which + " deep", x.deep(tongue, n), NONE);
            due(which + " order", x.order(tongue, n), NONE);
            due(which + " place", x.place(tongue, n), NONE);
            due(which + " chain", x.chain(tongue, n, 0), 1);
            due(which + " end of the chain", x.chain(tongue, n, 1), n);
            due(which + " again in the chain", x.chain(tongue, n, 2), NONE);
            due(which + " far", x.far(tongue, n, n), NONE);
        }
        due(which + " uses", x.uses(tongue, 0, 0, 999), 0);
        due(which + " first", x.first(tongue, 0), NONE);
        due(which + " song", x.song(tongue, 0, 999), 0);
        due(which + " lesser twin", x.twins(tongue, 0), NONE);
        due(which + " greater twin", x.twins(tongue, 1), NONE);
        due(which + " twins", x.twins(tongue, 2), 0);
        due(which + " find", x.find(tongue, false, NONE), 0);
        due(which + " find of a run", x.find(tongue, true, 0), NONE);
        due(which + " nearest", x.nearest(tongue, 0), NONE);
        due(which + " nearest, how far", x.nearest(tongue, 1), NONE);
        due(which + " led", x.led(tongue, tongue, NONE), NOT);
        due(which + " honest", x.honest(tongue, 0), NONE);
        due(which + " mixed", x.mixed(tongue, 9, 0, 60), 0);
        due(which + " square", x.square(tongue, 500, 1, 3), 0);
        due(which + " squares", x.squares(tongue, 500), NONE);
    }

    private static void feed() {
        NumberWords x = new NumberWords();
        due("feed 0", x.feed(0, 0), OUTSIDE);
        due("feed 9", x.feed(9, 0), OUTSIDE);
        due("feed -1", x.feed(-1, 0), OUTSIDE);
        due("feed least int", x.feed(Integer.MIN_VALUE, 0), OUTSIDE);
        due("feed greatest int", x.feed(Integer.MAX_VALUE, 0), OUTSIDE);
        // The bytes above the n lowest are not fed.
        due("feed 4", x.feed(4, 0x7878_7878_776F_7264L), 4);
        due("feed 3", x.feed(3, 0x7878_7878_7838_6F3BL), 7);
        due("read it", x.read(0), 1);
        CHECKS.due("its name", Checks.nameText(x, 0, 8), "o");
        due("feed a sign that cannot stand", x.feed(8, -1), 8);
        due("read it", x.read(0), -11);
        for (int i = 1; i <= 29; i++) {
            due("feed blanks", x.feed(8, 0x2020202020202020L), 8 * i);
        }
        due("feed 7 more", x.feed(7, 0x20202020202020L), 239);
        due("feed over the end", x.feed(2, 0x2020L), FULL);
        due("OUTSIDE ahead of FULL", x.feed(9, 0), OUTSIDE);
        due("nothing changed", x.about(0, 5), 239);
        due("feed the last one", x.feed(1, 0x20L), 240);
        due("feed into a full text", x.feed(1, 0x20L), FULL);
        due("240 blanks are no clauses", x.read(0), 0);
        due("it is empty then", x.about(0, 5), 0);
    }

    private static void read() {
        NumberWords x = new NumberWords();
        Checks.feedText(x, "word7x;");
        due("read 3", x.read(3), UNKNOWN);
        due("read -1", x.read(-1), UNKNOWN);
        due("the text stays", x.about(0, 5), 7);
        due("read 2", x.read(2), 1);
        due("the text is empty", x.about(0, 5), 0);
        due("only that tongue", x.about(1, 0), 0);
        due("a faulty text", Checks.readText(x, 2, "word7y;word8z"), -11);
        due("the faulty text is empty, too", x.about(0, 5), 0);
        CHECKS.due("the tongue is as it was", Checks.nameText(x, 2, 7), "x");
        due("its clauses, too", x.about(2, 0), 1);
        due("another text", Checks.readText(x, 2, "word8z;word9zz;"), 2);
        CHECKS.due("old names are gone", Checks.nameText(x, 2, 7), "-");
        due("order is made anew", x.order(2, 0), 8);
        due("an empty text", x.read(2), 0);
        due("no names then", x.about(2, 1), 0);
        due("no order then", x.order(2, 0), NONE);
        dueSound(TENS, 8);
    }

    private static void faultsOfPlace() {
        dueFault("x", 1, 0);
        dueFault(";", 1, 0);
        dueFault("5", 1, 0);
        dueFault("  12345", 1, 2);
        dueFault("wordy 5 a;", 1, 0);
        dueFault("wor", 1, 0);
        dueFault("word", 1, 4);
        dueFault("word  ", 1, 6);
        dueFault("word a;", 1, 5);
        dueFault("word 5 6;", 1, 7);
        dueFault("word 5 1234;", 1, 7);
        dueFault("word 5 #q;", 1, 7);
        dueFault("word 5 a b;", 1, 9);
        dueFault("word 5 a", 1, 8);
        dueFault("word 5 A;", 1, 7);
        dueFault("word 5 a\t;", 1, 8);
        dueFault("word 5 a;;", 1, 9);
        dueFault("word 5 a;\u00ff", 1, 9);
        dueFault("word 5 \u00e1;", 1, 7);
        dueFault("for 1 two 5 by 3:a;", 1, 6);
        dueFault("for 1 to 5 3:a;", 1, 11);
        dueFault("for 1 to 5 by 3 a;", 1, 16);
        dueFault("for 1 to 5 by 3:;", 1, 16);
        dueFault("for 1 to 5 by 3:a", 1, 17);
        dueFault("for 1 to 5 by 3:5;", 1, 16);
        dueFault("for 1 to 5 by 3:#;", 1, 17);
        dueFault("for 1 to 5 by 3:#", 1, 17);
        dueFault("for 1 to 5 by 3:# q;", 1, 17);
        dueFault("for 1 to 5 by 3:#a;", 1, 17);
        dueFault("for 1 to 5 by 3:##q;", 1, 17);
        dueFault("for 1 to 5 by 3:[];", 1, 17);
        dueFault("for 1 to 5 by 3:a];", 1, 17);
        dueFault("for 1 to 5 by 3:[a[b]];", 1, 18);
        dueFault("for 1 to 5 by 3:[a];]", 1, 20);
        dueFault("for 1 to 5 by 3:[a]];", 1, 19);
        dueFault("for 1 to 5 by 3:[a;", 1, 18);
        dueFault("for 1 to 5 by 3:[a", 1, 18);
        dueFault("abcdefghijklmn", 1, 0);
    }

    private static void faultsOfNumbers() {
        dueFault("word 1000 a;", 2, 5);
        dueFault("word 0001 a;", 2, 5);
        dueFault("word 99999999999999999999 a;", 2, 5);
        dueFault("for 1234 to 5 by 2:a;", 2, 4);
        dueFault("for 1 to 1234 by 2:a;", 2, 9);
        dueFault("for 6 to 5 by 2:a;", 2, 9);
        dueFault("for 1 to 5 by 0:a;", 2, 14);
        dueFault("for 1 to 5 by 1:a;", 2, 14);
        dueFault("for 1 to 5 by 501:a;", 2, 14);
        dueFault("for 1 to 5 by 0500:a;", 2, 14);
        dueSound("for 5 to 5 by 500:a;", 1);
        dueSound("for 000 to 999 by 002:a;", 1);
        dueFault("word 5 a;word 6 b;word 005 c;", 3, 23);
        dueSound("word 5 a;for 5 to 5 by 2:b;word 6 c;", 3);
    }

    private static void faultsOfCounts() {
        dueSound("word 5 abcdefghijkl;", 1);
        dueFault("word 5 abcdefghijklm;", 4, 19);
        dueFault("for 1 to 5 by 2:#qabcdefghijklm;", 4, 30);
        dueSound("for 1 to 5 by 2:#qabcdefghijkl;", 1);
        dueFault("for 1 to 5 by 2:[abcdefghijklmnop];", 4, 29);
        String twelve = "";
        for (int i = 0; i < 12; i++) {
            twelve += "word" + i + "a;";
        }
        dueSound(twelve, 12);
        dueSound(twelve + "  ", 12);
        dueFault(twelve + " word 1 a;", 5, twelve.length() + 1);
        dueFault(twelve + "for", 5, twelve.length());
        dueFault(twelve + "fort", 1, twelve.length());
        dueFault(twelve + ";", 1, twelve.length());
        dueSound("for 1 to 5 by 2:" + times("#q", 8) + ";", 1);
        dueFault("for 1 to 5 by 2:" + times("#q", 9) + ";", 6, 32);
        dueFault("for 1 to 5 by 2:" + times("#q", 8) + "#x;", 6, 32);
        dueFault("for 1 to 5 by 2:" + times("#q", 8) + "abcdefghijklm;", 6, 32);
        dueFault("for 1 to 5 by 2:" + times("[#q]", 8) + "[ a];", 6, 50);
        dueFault("for 1 to 5 by 2:" + times("[#q]", 8) + "[];", 1, 49);
        dueFault("for 1 to 5 by 2:" + times("#q", 8) + "5;", 1, 32);
        dueSound("for 1 to 5 by 2:" + times("[#q]", 8) + ";word 1 a;", 2);
    }

    private static void blanks() {
        dueSound("  word  5  a  ;  for  1  to  2  by  2  :  #q  [  #r  ]  a  ;  ", 2);
        dueSound("word5a;for1to2by2:#q[#r]a;", 2);
        dueSound("for1to2by2:for#nword#tto[by]#c;", 1);
        dueFault("wo rd5a;", 1, 0);
        dueFault("word 1 2 a;", 1, 7);
        dueName("word 5 word;", 5, "word");
        dueName("for 5 to 5 by 2:zz az;", 5, "zz az");
    }

    private static void fault() {
        NumberWords x = new NumberWords();
        due("fault at first", x.fault(), NONE);
        due("faulty", Checks.readText(x, 0, "word 5 a"), -11);
        due("its byte", x.fault(), 8);
        due("its byte once more", x.fault(), 8);
        Checks.feedText(x, "word 5 a;");
        due("unknown", x.read(7), UNKNOWN);
        due("it does not count", x.fault(), 8);
        due("sound", x.read(0), 1);
        due("no fault", x.fault(), NONE);
        due("a long text", Checks.readText(x, 0, "word 55 abc;for 1 to 22 by 2:abc;"), 2);
        due("a short one ahead of what was there", Checks.readText(x, 0, "word 5"), -11);
        due("its end", x.fault(), 6);
        due("a long text", Checks.readText(x, 0, "word 5 abc;"), 1);
        due("its letters are gone", Checks.readText(x, 0, "word 5 a"), -11);
        due("its end", x.fault(), 8);
        due("letters up to byte 240", Checks.readText(x, 0, times(" ", 232) + "word 5 a"), -11);
        due("its end", x.fault(), 240);
        due("figures up to byte 240", Checks.readText(x, 0, times(" ", 234) + "word 5"), -11);
        due("its end", x.fault(), 240);
        due("'#' at byte 239", Checks.readText(x, 0, times(" ", 224) + "for1to2by2: a #"), -11);
        due("its end", x.fault(), 239);
        due("a fault at 0", Checks.readText(x, 0, "?"), -11);
        due("its byte is 0", x.fault(), 0);
    }

    private static void about() {
        NumberWords x = told(BACKWARDS);
        due("clauses", x.about(0, 0), 9);
        due("names", x.about(0, 1), 15);
        due("greatest", x.about(0, 2), 20);
        due("least without", x.about(0, 3), 5);
        due("honest", x.about(0, 4), 1);
        Checks.feedText(x, "word");
        Checks.writeDraft(x, "ab ");
        due("text", x.about(0, 5), 4);
        due("text by another tongue", x.about(2, 5), 4);
        due("draft", x.about(0, 6), 3);
        due("about 7", x.about(0, 7), OUTSIDE);
        due("about -1", x.about(0, -1), OUTSIDE);
        due("about of 3", x.about(3, 0), UNKNOWN);
        due("about of -1", x.about(-1, 5), UNKNOWN);
        due("UNKNOWN ahead", x.about(3, 7), UNKNOWN);
        x = told(ALL_A);
        due("all have names", x.about(0, 1), 1000);
        due("greatest of all", x.about(0, 2), 999);
        due("none without", x.about(0, 3), NONE);
    }

    private static void name() {
        NumberWords x = told(BACKWARDS);
        due("size", x.name(0, 13, NONE), 13);
        due("byte 0", x.name(0, 13, 0), 't');
        due("a blank", x.name(0, 13, 5), ' ');
        due("the last byte", x.name(0, 13, 12), 'n');
        due("not so many", x.name(0, 13, 13), NONE);
        due("60", x.name(0, 13, 60), NONE);
        due("far away", x.name(0, 13, Integer.MAX_VALUE), NONE);
        due("-2", x.name(0, 13, -2), NONE);
        due("least int", x.name(0, 13, Integer.MIN_VALUE), NONE);
        due("no name", x.name(0, 15, NONE), NONE);
        due("no byte", x.name(0, 15, 0), NONE);
        due("tongue 3", x.name(3, 1, 0), UNKNOWN);
        due("tongue -1", x.name(-1, 1, 0), UNKNOWN);
        due("number -1", x.name(0, -1, 0), UNKNOWN);
        due("number 1000", x.name(0, 1000, 0), UNKNOWN);
        due("empty name", told(EMPTY_OR_A).name(0, 500, NONE), 0);
        due("its byte", told(EMPTY_OR_A).name(0, 500, 0), NONE);
        NumberWords z = told("word0abcdefghijkl;word1mnopqrstuvwx;word2zyxwvutsrqpo;"
                + "for 3 to 3 by 2:#r yz abc;");
        CHECKS.due("all letters", Checks.nameText(z, 0, 0) + Checks.nameText(z, 0, 3),
                "abcdefghijklmnopqrstuvwx yz abc");
    }

    private static void nameParts() {
        dueName(BACKWARDS, 18, "two from twenty");
        dueName(BACKWARDS, 11, "one and ten");
        dueName(BACKWARDS, 20, "twenty");
        dueName(TENS, 14, "ten four");
        dueName("word5hand;word1one;for 6 to 9 by 5:#q#tx#r;", 6, "one hand x one");
        dueName("word3c;word2b;for 7 to 10 by 5:#q[and#c];word1a;", 7, "a and c");
        dueName("word3c;word2b;for 7 to 10 by 5:#q[and#c];word1a;", 10, "b");
        dueName("word5e;for 10 to 10 by 5:#c;", 10, "e");
        dueName("word15x;for 10 to 10 by 5:#n;", 10, "x");
        dueName("word 10 x;for 7 to 7 by 5:#n;", 7, "x");
        dueName("for 1 to 5 by 9:a;word 3 c;for 0 to 9 by 2:b;", 3, "c");
        dueName("for 1 to 5 by 9:a;word 3 c;for 0 to 9 by 2:b;", 5, "a");
        dueName("for 1 to 5 by 9:a;word 3 c;for 0 to 9 by 2:b;", 6, "b");
        dueName("for 1 to 5 by 9:#r;for 0 to 9 by 2:b;", 5, "-");
        dueName("for 0 to 0 by 2:[x];for 1 to 1 by 2:#q a #q b #q;", 1, "a b");
        dueName("for 0 to 0 by 2:[x];for 1 to 1 by 2:#q;", 1, "");
        dueName("for 0 to 0 by 2:[#n];for 1 to 1 by 2:#q;", 0, "");
        dueName("word 999 z;for 998 to 998 by 499:a[#n];", 998, "a");
    }

    private static void nameless() {
        dueName("for 5 to 5 by 5:#t;", 5, "-");
        dueName("for 4 to 4 by 5:#r;", 4, "-");
        dueName("for 4 to 4 by 4:#c;", 4, "-");
        dueName("for 1 to 3 by 2:#c #n;", 3, "-");
        dueName("word 0 a;for 1 to 1 by 2:#q #n;for 2 to 2 by 2:#t;", 1, "-");
        // 1 asks for 2, which asks for 1.
        dueName("for 1 to 1 by 2:#n;for 2 to 2 by 3:x#r;", 2, "-");
        dueName("for 500 to 999 by 500:#n;word 1 a;", 600, "-");
        dueName("for 998 to 998 by 3:#n;word 999 x;", 998, "x");
        dueName("for 999 to 999 by 2:#n;word 0 a;", 999, "-");
        // Halves: 128 is eight deep, 256 nine.
        String halves = "word1a;for 2 to 999 by 2:#q;";
        dueName(halves, 255, "a");
        dueName(halves, 256, "-");
        dueName(halves, 999, "-");
        // Four times twelve letters and blanks are 51 bytes.
        String twelve = "word1abcdefghijkl;";
        String fives = twelve + "for 5 to 5 by 2:#r#r#r#r abcdefgh;for 7 to 7 by 2:#r#r#r#r abcdefghi;";
        due("60 bytes", told(fives).name(0, 5, NONE), 60);
        due("its last", told(fives).name(0, 5, 59), 'h');
        due("60 letters and blanks", told(fives).letters(0, 5), 56);
        due("61 bytes", told(fives).name(0, 7, NONE), NONE);
        String whole = twelve + "for 3 to 3 by 2:#r#r#r#r abcdefgh;for 6 to 6 by 2:#q;for 7 to 7 by 2:#q a;"
                + "for 10 to 10 by 3:#q #r;for 9 to 9 by 2:#r#r#r#r#r;";
        due("a part of 60 bytes alone", told(whole).name(0, 6, NONE), 60);
        due("a part of 60 bytes and a letter", told(whole).name(0, 7, NONE), NONE);
        due("a part of 60 bytes and another", told(whole).name(0, 10, NONE), NONE);
        due("five parts of twelve bytes", told(whole).name(0, 9, NONE), NONE);
        String gap = twelve + "for 5 to 5 by 2:#r#r#r#r abcdefg;for 10 to 10 by 2:#q a;for 11 to 11 by 2:#q;";
        due("59 bytes", told(gap).name(0, 5, NONE), 59);
        due("59 bytes as a part", told(gap).name(0, 11, NONE), 59);
        due("a letter that would fit without its blank", told(gap).name(0, 10, NONE), NONE);
    }

    private static void letters() {
        NumberWords x = told(BACKWARDS);
        due("letters", x.letters(0, 13), 11);
        due("letters of a word", x.letters(0, 3), 5);
        due("no name", x.letters(0, 15), NONE);
        due("none at all", told(EMPTY_OR_A).letters(0, 0), 0);
        due("tongue 3", x.letters(3, 3), UNKNOWN);
        due("number 1000", x.letters(0, 1000), UNKNOWN);
        due("number -1", x.letters(0, -1), UNKNOWN);
    }

    private static void by() {
        NumberWords x = told("for 1 to 5 by 9:#q[#r];word 3 c;for 0 to 9 by 2:b;word 8 d;");
        due("by a word", x.by(0, 3), 1);
        due("by the first clause, in vain", x.by(0, 4), NONE);
        due("by the third", x.by(0, 6), 2);
        due("by the last", x.by(0, 8), 3);
        due("by none", x.by(0, 10), NONE);
        due("tongue 3", x.by(3, 3), UNKNOWN);
        due("number 1000", x.by(0, 1000), UNKNOWN);
        due("number -1", x.by(0, -1), UNKNOWN);
    }

    private static void deep() {
        NumberWords x = told("word1a;for 2 to 999 by 2:#q[and#r];");
        due("a word", x.deep(0, 1), 1);
        due("2", x.deep(0, 2), 2);
        due("4", x.deep(0, 4), 3);
        due("128", x.deep(0, 128), 8);
        due("256", x.deep(0, 256), NONE);
        due("letters alone", told(ALL_A).deep(0, 7), 1);
        due("nothing at all", told(EMPTY_OR_A).deep(0, 0), 1);
        due("a part of 0 bytes", told("for 0 to 0 by 2:[x];for 1 to 1 by 2:#q a;").deep(0, 1), 2);
        due("the deeper part", told("word1a;word2b;for 3 to 3 by 2:x;for 4 to 9 by 3:#q[#r]#t;").deep(0, 4), 2);
        due("a part that comes later",
                told("word9x;for 1 to 1 by 5:#n;for 5 to 5 by 9:#n;").deep(0, 1), 3);
        // Each asks for the next greater one: 1 is eight deep, and nine if 8 asks for 9.
        StringBuilder up = new StringBuilder();
        for (int n = 1; n <= 7; n++) {
            up.append("for ").append(n).append(" to ").append(n).append(" by ").append(n + 1).append(":#n;");
        }
        due("up to a word", told(up + "word8x;").deep(0, 1), 8);
        due("up too far", told(up + "for 8 to 8 by 9:#n;word9x;").deep(0, 1), NONE);
        due("up, from 2 on", told(up + "for 8 to 8 by 9:#n;word9x;").deep(0, 2), 8);
        due("no name", x.deep(0, 0), NONE);
        due("tongue -1", x.deep(-1, 3), UNKNOWN);
        due("number 1000", x.deep(0, 1000), UNKNOWN);
    }

    private static void uses() {
        NumberWords x = told(BACKWARDS);
        due("o in one", x.uses(0, 'o' - 'a', 1, 1), 1);
        due("e from 0 to 4", x.uses(0, 'e' - 'a', 0, 4), 3);
        due("t of all", x.uses(0, 't' - 'a', 0, 999), 21);
        due("n, with gaps", x.uses(0, 'n' - 'a', 14, 16), 3);
        due("z", x.uses(0, 25, 0, 999), 0);
        due("no names", x.uses(0, 0, 100, 999), 0);
        due("letter 26", x.uses(0, 26, 0, 1), OUTSIDE);
        due("letter -1", x.uses(0, -1, 0, 1), OUTSIDE);
        due("b below a", x.uses(0, 0, 2, 1), OUTSIDE);
        due("tongue 3", x.uses(3, 0, 0, 1), UNKNOWN);
        due("a of 1000", x.uses(0, 0, 1000, 1), UNKNOWN);
        due("b of 1000", x.uses(0, 26, 0, 1000), UNKNOWN);
        due("a of -1", x.uses(0, 26, -1, 1), UNKNOWN);
        due("every a", told(ALL_A).uses(0, 0, 0, 999), 1000);
    }

    private static void first() {
        NumberWords x = told(BACKWARDS);
        due("first e", x.first(0, 'e' - 'a'), 1);
        due("first n", x.first(0, 'n' - 'a'), 0);
        due("first d", x.first(0, 'd' - 'a'), 11);
        due("first z", x.first(0, 25), NONE);
        due("first y", x.first(0, 'y' - 'a'), 16);
        due("first in an empty tongue", x.first(1, 0), NONE);
        due("letter 26", x.first(0, 26), OUTSIDE);
        due("letter -1", x.first(0, -1), OUTSIDE);
        due("tongue 3", x.first(3, 26), UNKNOWN);
    }

    private static void song() {
        NumberWords x = told(BACKWARDS);
        due("0 to 4", x.song(0, 0, 4), 18);
        due("one alone", x.song(0, 13, 13), 11);
        due("with a gap", x.song(0, 14, 16), 24);
        due("none", x.song(0, 100, 999), 0);
        due("b below a", x.song(0, 5, 4), OUTSIDE);
        due("tongue -1", x.song(-1, 0, 4), UNKNOWN);
        due("a of -1", x.song(0, -1, 4), UNKNOWN);
        due("b of 1000", x.song(0, 0, 1000), UNKNOWN);
        due("UNKNOWN ahead", x.song(0, 1000, 4), UNKNOWN);
    }

    private static void order() {
        NumberWords x = told(BACKWARDS);
        int[] inOrder = {4, 14, 16, 0, 1, 11, 19, 10, 3, 13, 17, 20, 2, 12, 18};
        for (int i = 0; i < inOrder.length; i++) {
            due("order of " + i, x.order(0, i), inOrder[i]);
            due("place of " + inOrder[i], x.place(0, inOrder[i]), i);
        }
        due("order of 15", x.order(0, inOrder.length), NONE);
        due("order of -1", x.order(0, -1), NONE);
        due("order of least int", x.order(0, Integer.MIN_VALUE), NONE);
        due("order of greatest int", x.order(0, Integer.MAX_VALUE), NONE);
        due("tongue 3", x.order(3, 0), UNKNOWN);
        due("tongue -1", x.order(-1, 0), UNKNOWN);
        NumberWords y = told("word0ab;word1a;word2aa;for 3 to 3 by 2:a b;word4a;for 5 to 5 by 2:[a];"
                + "for 6 to 6 by 2:[a];word7az;");
        int[] blanksAhead = {6, 1, 4, 5, 3, 2, 0, 7};
        for (int i = 0; i < blanksAhead.length; i++) {
            due("blanks ahead, order of " + i, y.order(0, i), blanksAhead[i]);
        }
        NumberWords z = told(EMPTY_OR_A);
        due("empty ahead", z.order(0, 0), 0);
        due("empty ahead, too", z.order(0, 1), 500);
        due("like names, the lesser", z.order(0, 2), 1);
        due("the last of 1000", z.order(0, 999), 999);
        due("behind 1000", z.order(0, 1000), NONE);
    }

    private static void place() {
        NumberWords x = told(BACKWARDS);
        due("no name", x.place(0, 5), NONE);
        due("tongue 3", x.place(3, 0), UNKNOWN);
        due("number 1000", x.place(0, 1000), UNKNOWN);
        due("number -1", x.place(0, -1), UNKNOWN);
        due("like names", told(EMPTY_OR_A).place(0, 501), 501);
        due("like names, empty", told(EMPTY_OR_A).place(0, 500), 1);
    }

    private static void twins() {
        NumberWords x = told("word9ab;word1ab;word3c;for 4 to 4 by 2:a b;word7c;word8c;word5d;");
        due("lesser", x.twins(0, 0), 1);
        due("greater", x.twins(0, 1), 4);
        due("how many", x.twins(0, 2), 6);
        due("what 3", x.twins(0, 3), OUTSIDE);
        due("what -1", x.twins(0, -1), OUTSIDE);
        due("tongue 3", x.twins(3, 3), UNKNOWN);
        NumberWords y = told(BACKWARDS);
        due("no lesser", y.twins(0, 0), NONE);
        due("no greater", y.twins(0, 1), NONE);
        due("none", y.twins(0, 2), 0);
        NumberWords z = told("word0z;word1b;word2a;word3a;word9z;");
        due("the least greater, its lesser", z.twins(0, 0), 2);
        due("the least greater", z.twins(0, 1), 3);
        due("two pairs", z.twins(0, 2), 4);
        due("read anew", Checks.readText(z, 0, "word0z;word9z;"), 2);
        due("sought anew", z.twins(0, 1), 9);
    }

    private static void write() {
        NumberWords x = new NumberWords();
        due("a", x.write('a'), 1);
        due("z", x.write('z'), 2);
        due("blank", x.write(' '), 3);
        due("96", x.write(96), OUTSIDE);
        due("123", x.write(123), OUTSIDE);
        due("31", x.write(31), OUTSIDE);
        due("33", x.write(33), OUTSIDE);
        due("0", x.write(0), OUTSIDE);
        due("-1", x.write(-1), OUTSIDE);
        due("97 and 256", x.write(97 + 256), OUTSIDE);
        due("nothing changed", x.about(0, 6), 3);
        for (int i = 4; i <= 60; i++) {
            due("x", x.write('x'), i);
        }
        due("the 61st", x.write('x'), FULL);
        due("OUTSIDE ahead of FULL", x.write('X'), OUTSIDE);
        due("still 60", x.about(0, 6), 60);
    }

    private static void clear() {
        NumberWords x = told(BACKWARDS);
        Checks.writeDraft(x, "one");
        due("found", x.find(0, false, 0), 1);
        due("clear", x.clear(), 3);
        due("empty", x.about(0, 6), 0);
        due("nothing found", x.find(0, false, NONE), 0);
        due("clear once more", x.clear(), 0);
        due("write anew", x.write('a'), 1);
    }

    private static void find() {
        NumberWords x = told("word9ab;word1ab;word3c;for 4 to 4 by 2:a b;word7abc;");
        Checks.writeDraft(x, "ab");
        due("just so", x.find(0, false, NONE), 2);
        due("the first", x.find(0, false, 0), 1);
        due("the second", x.find(0, false, 1), 9);
        due("no third", x.find(0, false, 2), NONE);
        due("-2", x.find(0, false, -2), NONE);
        due("by run", x.find(0, true, NONE), 3);
        due("by run, the second", x.find(0, true, 1), 4);
        due("by run, no fourth", x.find(0, true, 3), NONE);
        Checks.writeDraft(x, " a  b ");
        due("blanks, just so", x.find(0, false, NONE), 0);
        due("blanks, none", x.find(0, false, 0), NONE);
        due("blanks, by run", x.find(0, true, NONE), 3);
        Checks.writeDraft(x, "a b");
        due("with its blank", x.find(0, false, 0), 4);
        Checks.writeDraft(x, "ab ");
        due("a blank behind", x.find(0, false, NONE), 0);
        due("another tongue", x.find(1, true, NONE), 0);
        due("tongue 3", x.find(3, true, NONE), UNKNOWN);
        due("tongue -1", x.find(-1, false, 0), UNKNOWN);
        NumberWords y = told(EMPTY_OR_A);
        due("the empty draft", y.find(0, false, NONE), 2);
        Checks.writeDraft(y, "  ");
        due("blanks alone", y.find(0, false, NONE), 0);
        due("blanks alone, by run", y.find(0, true, 1), 500);
    }

    private static void nearest() {
        NumberWords x = told(BACKWARDS);
        Checks.writeDraft(x, "tree and tin");
        due("misheard", x.nearest(0, 0), 13);
        due("how far", x.nearest(0, 1), 2);
        Checks.writeDraft(x, "t w o");
        due("blanks do not count", x.nearest(0, 0), 2);
        due("0 far", x.nearest(0, 1), 0);
        x.clear();
        due("the empty draft", x.nearest(0, 0), 0);
        due("its way", x.nearest(0, 1), 3);
        Checks.writeDraft(x, times("x", 60));
        due("sixty x", x.nearest(0, 1), 60);
        due("the least of all", x.nearest(0, 0), 0);
        due("no names", x.nearest(1, 0), NONE);
        due("no names, no way", x.nearest(1, 1), NONE);
        due("what 2", x.nearest(0, 2), OUTSIDE);
        due("what -1", x.nearest(0, -1), OUTSIDE);
        due("what 2 without names", x.nearest(1, 2), OUTSIDE);
        due("tongue 3", x.nearest(3, 2), UNKNOWN);
        NumberWords y = told("word9ab;word5ad;");
        Checks.writeDraft(y, "ac");
        due("of like ways the least number", y.nearest(0, 0), 5);
    }

    private static void led() {
        NumberWords x = told("word4ab;word2ab;word3c;for 7 to 7 by 2:a b;");
        Checks.readText(x, 1, "word4vier;for 7 to 7 by 9:si eben;word2zw;for 0 to 0 by 2:[a];");
        Checks.readText(x, 2, "word4x;");
        Checks.writeDraft(x, "ab");
        due("how many bytes", x.led(0, 1, NONE), 2);
        due("byte 0", x.led(0, 1, 0), 'z');
        due("byte 1", x.led(0, 1, 1), 'w');
        due("byte 2", x.led(0, 1, 2), NONE);
        due("byte -2", x.led(0, 1, -2), NONE);
        due("into itself", x.led(0, 0, 1), 'b');
        due("the least alone counts", x.led(0, 2, 0), NOT);
        due("no number in a", x.led(1, 0, 0), NOT);
        due("tongue 3", x.led(3, 0, 0), UNKNOWN);
        due("to tongue 3", x.led(0, 3, 0), UNKNOWN);
        due("to tongue -1", x.led(0, -1, 0), UNKNOWN);
        Checks.writeDraft(x, "a b");
        due("as it is, with blanks", x.led(0, 1, 2), ' ');
        Checks.writeDraft(x, "c");
        due("no name in b", x.led(0, 1, NONE), NOT);
        x.clear();
        due("the empty name", x.led(1, 1, NONE), 0);
        due("its byte", x.led(1, 1, 0), NONE);
    }

    private static void chain() {
        NumberWords x = told(BACKWARDS);
        // 13 has 11 letters, 11 has 9, and 9 has no name.
        due("13 stops", x.chain(0, 13, 0), 3);
        due("13 stops at", x.chain(0, 13, 1), 9);
        due("13 stops, none again", x.chain(0, 13, 2), NONE);
        due("1, 3, 5", x.chain(0, 1, 0), 3);
        due("1, 3, 5 ends at", x.chain(0, 1, 1), 5);
        due("4 alone", x.chain(0, 4, 0), 1);
        due("4 again", x.chain(0, 4, 2), 4);
        due("no name", x.chain(0, 99, 0), 1);
        due("no name, last", x.chain(0, 99, 1), 99);
        due("no name, again", x.chain(0, 99, 2), NONE);
        due("what 3", x.chain(0, 1, 3), OUTSIDE);
        due("what -1", x.chain(0, 1, -1), OUTSIDE);
        due("tongue 3", x.chain(3, 1, 3), UNKNOWN);
        due("number 1000", x.chain(0, 1000, 3), UNKNOWN);
        NumberWords y = told("word1ab;word2abc;word3a;word9a;");
        due("round", y.chain(0, 1, 0), 3);
        due("round, last", y.chain(0, 1, 1), 3);
        due("round, again", y.chain(0, 1, 2), 1);
        due("into the round", y.chain(0, 9, 0), 4);
        due("into the round, last", y.chain(0, 9, 1), 3);
        due("into the round, again", y.chain(0, 9, 2), 1);
        due("down to 0", told(EMPTY_OR_A).chain(0, 500, 0), 2);
        due("0 again", told(EMPTY_OR_A).chain(0, 500, 2), 0);
    }

    private static void honest() {
        NumberWords x = told("word4four;word3ter;word2z;word6abcdef;for 9 to 9 by 2:four five;");
        due("honest 0", x.honest(0, 0), 3);
        due("honest 1", x.honest(0, 1), 4);
        due("honest 2", x.honest(0, 2), 6);
        due("honest 3", x.honest(0, 3), NONE);
        due("honest -1", x.honest(0, -1), NONE);
        due("how many", x.about(0, 4), 3);
        due("tongue 3", x.honest(3, 0), UNKNOWN);
        due("0 with 0 letters", told(EMPTY_OR_A).honest(0, 0), 0);
        due("1 with one letter", told(EMPTY_OR_A).honest(0, 1), 1);
        NumberWords y = told("word1abcdefghijkl;for 56 to 56 by 5:#r#r#r#r abcdefgh;");
        due("56 letters", y.honest(0, 0), 56);
    }

    private static void far() {
        NumberWords x = told("word1kitten;word2sitting;for 3 to 3 by 2:kit ten;for 4 to 4 by 2:[a];"
                + "word5abc;word6bcd;word7ab;word8ba;");
        due("kitten, sitting", x.far(0, 1, 2), 3);
        due("sitting, kitten", x.far(0, 2, 1), 3);
        due("blanks do not count", x.far(0, 1, 3), 0);
        due("from nothing", x.far(0, 4, 1), 6);
        due("to nothing", x.far(0, 1, 4), 6);
        due("nothing to nothing", x.far(0, 4, 4), 0);
        due("one out, one in", x.far(0, 5, 6), 2);
        due("two changed places", x.far(0, 7, 8), 2);
        due("the same", x.far(0, 2, 2), 0);
        due("one has none", x.far(0, 1, 9), NONE);
        due("the other has none", x.far(0, 9, 1), NONE);
        due("tongue 3", x.far(3, 1, 1), UNKNOWN);
        due("number 1000", x.far(0, 1000, 1), UNKNOWN);
        due("number -1", x.far(0, 1, -1), UNKNOWN);
    }

    private static void mixed() {
        NumberWords x = told("word0a;word1b;word2abc;word3abd;word60a;word61a;for 4 to 4 by 2:[a];");
        due("0 far", x.mixed(0, 0, 0, 60), 1);
        due("1 far", x.mixed(0, 1, 0, 10), 4);
        due("2 far", x.mixed(0, 2, 0, 10), 8);
        due("9 far", x.mixed(0, 9, 0, 10), 10);
        due("61 numbers", x.mixed(0, 0, 1, 61), 1);
        due("from 2 on", x.mixed(0, 1, 2, 10), 1);
        due("one alone", x.mixed(0, 9, 2, 2), 0);
        due("too many", x.mixed(0, 0, 0, 61), OUTSIDE);
        due("b below a", x.mixed(0, 0, 5, 4), OUTSIDE);
        due("d 10", x.mixed(0, 10, 0, 1), OUTSIDE);
        due("d -1", x.mixed(0, -1, 0, 1), OUTSIDE);
        due("tongue 3", x.mixed(3, 10, 0, 1), UNKNOWN);
        due("a of -1", x.mixed(0, 10, -1, 1), UNKNOWN);
        due("b of 1000", x.mixed(0, 1, 990, 1000), UNKNOWN);
        due("all of 61", told(ALL_A).mixed(0, 0, 939, 999), 1830);
    }

    private static void square() {
        NumberWords x = told("for 0 to 99 by 2:a;word 500 abc;");
        due("all alike", x.square(0, 50, 3, 1), 1);
        due("at the edge", x.square(0, 4, 3, 1), 1);
        due("below 0", x.square(0, 3, 3, 1), NONE);
        due("below 0 by steps back", x.square(0, 3, -3, -1), NONE);
        due("above 999", x.square(0, 996, 3, 1), NONE);
        due("up to 999", x.square(0, 995, 3, 1), 0);
        due("one cell alone", x.square(0, 500, 0, 0), 1);
        due("no names", x.square(0, 500, 1, 0), 0);
        due("some have no names", x.square(0, 98, 1, 2), 0);
        due("steps back", x.square(0, 50, -3, -1), 1);
        due("m 1000", x.square(0, 1000, 0, 0), OUTSIDE);
        due("m -1", x.square(0, -1, 0, 0), OUTSIDE);
        due("u 1000", x.square(0, 0, 1000, 0), OUTSIDE);
        due("u -1000", x.square(0, 0, -1000, 0), OUTSIDE);
        due("v 1000", x.square(0, 0, 0, 1000), OUTSIDE);
        due("v -1000", x.square(0, 0, 0, -1000), OUTSIDE);
        due("u least int", x.square(0, 0, Integer.MIN_VALUE, 0), OUTSIDE);
        due("v greatest int", x.square(0, 0, 0, Integer.MAX_VALUE), OUTSIDE);
        due("u 999", x.square(0, 0, 999, 0), NONE);
        due("v -999", x.square(0, 0, 0, -999), NONE);
        due("tongue 3", x.square(3, 1000, 0, 0), UNKNOWN);
        // 5, 3, 1: rows 8 1 6, 3 5 7, 4 9 2; letters n of n, but for one cell or two.
        String counted = "word1a;word2aa;word3aaa;word4aaaa;word5aaaaa;word6aaaaaa;word7aaaaaaa;"
                + "word8aaaaaaaa;word9aaaaaaaaa;";
        due("as many letters as figures", told(counted).square(0, 5, 3, 1), 1);
        for (int n = 1; n <= 9; n++) {
            String other = counted.replace("word" + n + "a", "word" + n + "aa");
            due("one letter more in " + n, told(other).square(0, 5, 3, 1), 0);
        }
    }

    private static void squares() {
        due("the first with nine unlike ones", told(ALL_A).squares(0, 500), 103);
        due("at the edge", told(ALL_A).squares(0, 4), 103);
        due("no room", told(ALL_A).squares(0, 3), NONE);
        due("at the upper edge", told(ALL_A).squares(0, 995), 103);
        due("no names", told("word1a;").squares(0, 500), NONE);
        String counted = "word1a;word2aa;word3aaa;word4aaaa;word5aaaaa;word6aaaaaa;word7aaaaaaa;"
                + "word8aaaaaaaa;word9aaaaaaaaa;";
        due("as many letters as figures", told(counted).squares(0, 5), 103);
        due("no other", told(counted).squares(0, 6), NONE);
        due("u 58, v 60", told(justNamed(558, 382, 560, 502, 500, 498, 440, 618, 442)).squares(0, 500), 5860);
        due("u 59, v 60", told(justNamed(559, 381, 560, 501, 500, 499, 440, 619, 441)).squares(0, 500), 5960);
        due("u 1, v 61", told(justNamed(501, 438, 561, 560, 500, 440, 439, 562, 499)).squares(0, 500), NONE);
        due("m 1000", told(ALL_A).squares(0, 1000), UNKNOWN);
        due("m -1", told(ALL_A).squares(0, -1), UNKNOWN);
        due("tongue 3", told(ALL_A).squares(3, 1), UNKNOWN);
    }

    private static String justNamed(int... numbers) {
        StringBuilder text = new StringBuilder();
        for (int n : numbers) {
            text.append("word").append(n).append("a;");
        }
        return text.toString();
    }

    private static void unknownAheadOfOutside() {
        NumberWords x = new NumberWords();
        int[] wild = {Integer.MIN_VALUE, -1000, -1, 3, 1000, Integer.MAX_VALUE};
        for (int w : wild) {
            due("about", x.about(w, w), UNKNOWN);
            due("name", x.name(w, w, w), UNKNOWN);
            due("uses", x.uses(w, w, w, w), UNKNOWN);
            due("first", x.first(w, w), UNKNOWN);
            due("twins", x.twins(w, w), UNKNOWN);
            due("find", x.find(w, true, w), UNKNOWN);
            due("nearest", x.nearest(w, w), UNKNOWN);
            due("led", x.led(0, w, w), UNKNOWN);
            due("chain", x.chain(w, w, w), UNKNOWN);
            due("mixed", x.mixed(w, w, 0, 0), UNKNOWN);
            due("square", x.square(w, w, w, w), UNKNOWN);
            due("squares", x.squares(w, w), UNKNOWN);
        }
    }
}
