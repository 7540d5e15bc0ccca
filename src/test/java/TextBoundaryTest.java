/**
 * The boundary cases of the document's terms, part 1: how long a text may be, the bounds of its numbers,
 * which signs may stand where, and each fault: the last text without it, the first one with it, its byte.
 */
public final class TextBoundaryTest {
    private static final Checks CHECKS = new Checks();

    /** A clause up to its colon, of sixteen bytes. */
    private static final String HEAD = "for 1 to 5 by 2:";
    private static final int AT = HEAD.length();

    public static void main(String[] args) {
        wholeText();
        emptyText();
        boundsOfN();
        boundsOfA();
        boundsOfB();
        boundsOfU();
        figures();
        lesserB();
        signsOfClauses();
        signsOfNumbers();
        signsOfLetters();
        signsBehindLetters();
        signsBehindU();
        signsOfParts();
        signsBehindHash();
        signsBehindEightParts();
        brackets();
        keywords();
        blanksAnywhere();
        blanksWithin();
        blankBehindHash();
        otherSignsAreNoBlanks();
        sideBySide();
        lettersAtOnce();
        everyCut();
        endBehindBlanks();
        leastFaultOfOneByte();
        firstByteOfSeveral();
        secondWord();
        secondWordOfAnotherText();
        thirteenthLetter();
        thirteenthClause();
        ninthPart();
        CHECKS.end();
    }

    private static void sound(String text, int clauses) {
        CHECKS.dueSound(text, clauses);
    }

    private static void fault(String text, int number, int place) {
        CHECKS.dueFault(text, number, place);
    }

    private static void name(String text, int n, String name) {
        CHECKS.dueName(text, n, name);
    }

    private static boolean isLetter(int c) {
        return c >= 97 && c <= 122;
    }

    private static boolean isFigure(int c) {
        return c >= 48 && c <= 57;
    }

    private static String ahead(String text, int size) {
        return " ".repeat(size - text.length()) + text;
    }

    /** So many words, for 0 and on. */
    private static String words(int count) {
        StringBuilder text = new StringBuilder();
        for (int n = 0; n < count; n++) {
            text.append("word").append(n).append("a;");
        }
        return text.toString();
    }

    // ---- "texts (240 bytes at most)"

    private static void wholeText() {
        StringBuilder full = new StringBuilder();
        for (int n = 900; n < 912; n++) {
            full.append("word ").append(n).append("abcdefghijk;");
        }
        CHECKS.due("size of the full text", full.length(), 240);
        sound(full.toString(), 12);
        name(full.toString(), 911, "abcdefghijk");
        String last = ahead("word 999 last;", 240);
        sound(last, 1);
        name(last, 999, "last");
        // Its faults at the last byte, and at the end that is its length.
        fault(ahead("word 999 last?", 240), 1, 239);
        fault(ahead("word 999 last", 240), 1, 240);
        fault(ahead("word 999", 240), 1, 240);
        fault(ahead("word", 240), 1, 240);
        fault(ahead("wor", 240), 1, 237);
        fault(ahead("f", 240), 1, 239);
        fault(ahead("word 5 abcdefghijklm", 240), 4, 239);
        fault(ahead("word 1234", 240), 2, 236);
        fault(ahead(HEAD, 240), 1, 240);
        fault(ahead(HEAD + "#", 240), 1, 240);
        fault(ahead(HEAD + "[", 240), 1, 240);
        fault(ahead(HEAD + "[a", 240), 1, 240);
        fault(ahead(HEAD + "[a]", 240), 1, 240);
        fault(ahead(HEAD + "#q", 240), 1, 240);
        fault(ahead(HEAD + "#q#q#q#q#q#q#q#q#", 240), 6, 239);
        fault(ahead(words(12) + "for", 240), 5, 237);
    }

    private static void emptyText() {
        sound("", 0);
        sound(" ", 0);
        sound(" ".repeat(240), 0);
    }

    // ---- "N, A, B 0 .. 999, U 2 .. 500"

    private static void boundsOfN() {
        name("word 0 a;", 0, "a");
        name("word 999 a;", 999, "a");
        fault("word 1000 a;", 2, 5);
        fault("word1000a;", 2, 4);
        fault("word   1000 a;", 2, 7);
        fault("word 999 a;word 1000 a;", 2, 16);
    }

    private static void boundsOfA() {
        name("for 0 to 0 by 2:a;", 0, "a");
        name("for 999 to 999 by 2:a;", 999, "a");
        fault("for 1000 to 1000 by 2:a;", 2, 4);
        fault("for1000to1000by2:a;", 2, 3);
    }

    private static void boundsOfB() {
        sound("for 0 to 999 by 2:a;", 1);
        CHECKS.due("names up to 999", CHECKS.told("for 0 to 999 by 2:a;").about(0, 2), 999);
        fault("for 0 to 1000 by 2:a;", 2, 9);
        fault("for0to1000by2:a;", 2, 6);
        fault("for 0 to   1000 by 2:a;", 2, 11);
    }

    private static void boundsOfU() {
        fault("for 1 to 5 by 0:a;", 2, 14);
        fault("for 1 to 5 by 1:a;", 2, 14);
        sound("for 1 to 5 by 2:a;", 1);
        sound("for 1 to 5 by 500:a;", 1);
        fault("for 1 to 5 by 501:a;", 2, 14);
        fault("for 1 to 5 by 999:a;", 2, 14);
        fault("for 1 to 5 by 1000:a;", 2, 14);
        fault("for1to5by501:a;", 2, 9);
        name("word0z;word1a;word2b;for 5 to 5 by 2:#q #r;", 5, "b a");
        name("word0z;word1a;word499b;for 999 to 999 by 500:#q #r;", 999, "a b");
    }

    /** "NUMBERS of the text have one to three figures", "2 a number of four figures or more". */
    private static void figures() {
        name("word 7 a;", 7, "a");
        name("word 07 a;", 7, "a");
        name("word 007 a;", 7, "a");
        fault("word 0007 a;", 2, 5);
        fault("word 0000 a;", 2, 5);
        fault("word 00000000000000000000000000007 a;", 2, 5);
        sound("for 000 to 005 by 002:a;", 1);
        fault("for 0000 to 005 by 002:a;", 2, 4);
        fault("for 000 to 0005 by 002:a;", 2, 11);
        fault("for 000 to 005 by 0002:a;", 2, 18);
        // What a number of 32 or 64 bits would take for 5.
        fault("word 4294967301 a;", 2, 5);
        fault("word 18446744073709551621 a;", 2, 5);
        fault("word " + "9".repeat(235), 2, 5);
    }

    /** "or B less than A (at its first figure)". */
    private static void lesserB() {
        sound("for 5 to 5 by 2:a;", 1);
        sound("for 5 to 005 by 2:a;", 1);
        sound("for 005 to 5 by 2:a;", 1);
        fault("for 5 to 4 by 2:a;", 2, 9);
        fault("for 5 to 0 by 2:a;", 2, 9);
        fault("for 5 to 04 by 2:a;", 2, 9);
        fault("for 999 to 998 by 2:a;", 2, 11);
        sound("for 9 to 10 by 2:a;", 1);
        fault("for 10 to 9 by 2:a;", 2, 10);
        fault("for 100 to 99 by 2:a;", 2, 11);
        fault("for 1 to 5 by 2:a;for 3 to 2 by 2:a;", 2, 27);
    }

    // ---- "1 it cannot stand there": each of the 256 bytes where a sign is due

    private static void signsOfClauses() {
        for (int c = 0; c < 256; c++) {
            if (c == 32) {
                sound("" + (char) c, 0);
            } else {
                fault("" + (char) c, 1, 0);
                fault("word 5 a;" + (char) c, 1, 9);
            }
        }
    }

    private static void signsOfNumbers() {
        for (int c = 0; c < 256; c++) {
            String text = "word" + (char) c + " a;";
            if (isFigure(c)) {
                sound(text, 1);
            } else if (isLetter(c)) {
                fault(text, 1, 0);
            } else {
                fault(text, 1, c == 32 ? 6 : 4);
            }
        }
    }

    private static void signsOfLetters() {
        for (int c = 0; c < 256; c++) {
            String text = "word 5 " + (char) c + ";";
            if (isLetter(c)) {
                name(text, 5, "" + (char) c);
            } else {
                fault(text, 1, c == 32 ? 8 : 7);
            }
        }
    }

    private static void signsBehindLetters() {
        for (int c = 0; c < 256; c++) {
            String text = "word 5 a" + (char) c;
            if (c == ';') {
                sound(text, 1);
            } else {
                fault(text, 1, isLetter(c) || c == 32 ? 9 : 8);
            }
        }
    }

    private static void signsBehindU() {
        for (int c = 0; c < 256; c++) {
            String text = "for 1 to 5 by 2" + (char) c + "a;";
            if (c == ':') {
                sound(text, 1);
            } else {
                fault(text, 1, isFigure(c) || c == 32 ? 16 : 15);
            }
        }
    }

    private static void signsOfParts() {
        for (int c = 0; c < 256; c++) {
            String text = HEAD + (char) c + ";";
            if (isLetter(c)) {
                sound(text, 1);
            } else {
                fault(text, 1, c == '#' || c == '[' || c == 32 ? AT + 1 : AT);
            }
        }
    }

    /** "'#' ('q' | 't' | 'r' | 'c' | 'n')". */
    private static void signsBehindHash() {
        for (int c = 0; c < 256; c++) {
            String text = HEAD + "#" + (char) c + ";";
            if ("qtrcn".indexOf(c) >= 0) {
                sound(text, 1);
            } else {
                fault(text, 1, AT + 1);
            }
        }
    }

    /** What begins a part is fault 6 there, what begins none is fault 1. */
    private static void signsBehindEightParts() {
        for (int c = 0; c < 256; c++) {
            String text = HEAD + "#q".repeat(8) + (char) c;
            if (c == ';') {
                sound(text, 1);
            } else if (isLetter(c) || c == '#') {
                fault(text, 6, AT + 16);
            } else {
                fault(text, 1, c == '[' || c == 32 ? AT + 17 : AT + 16);
            }
        }
    }

    /** "'[' part {part} ']' (within it parts without brackets)". */
    private static void brackets() {
        sound(HEAD + "[a];", 1);
        sound(HEAD + "[#q];", 1);
        sound(HEAD + "[a b#q c];", 1);
        sound(HEAD + "[a][b];", 1);
        sound(HEAD + "[a]b[c];", 1);
        fault(HEAD + "[];", 1, AT + 1);
        fault(HEAD + "[ ];", 1, AT + 2);
        fault(HEAD + "a[];", 1, AT + 2);
        fault(HEAD + "[a][];", 1, AT + 4);
        fault(HEAD + "[[a]];", 1, AT + 1);
        fault(HEAD + "[a[b]];", 1, AT + 2);
        fault(HEAD + "];", 1, AT);
        fault(HEAD + "a];", 1, AT + 1);
        fault(HEAD + "[a]];", 1, AT + 3);
        fault(HEAD + "[a;", 1, AT + 2);
        fault(HEAD + "[;", 1, AT + 1);
        fault(HEAD + "[a;word 5 a;", 1, AT + 2);
        fault("word 5 [a];", 1, 7);
        fault(HEAD + ";", 1, AT);
    }

    /** "(a word that cannot: at its first letter)". */
    private static void keywords() {
        fault("words 5 a;", 1, 0);
        fault("wor 5 a;", 1, 0);
        fault("Word 5 a;", 1, 0);
        fault("to 5 a;", 1, 0);
        fault("  fo 1 to 5 by 2:a;", 1, 2);
        fault("fore 1 to 5 by 2:a;", 1, 0);
        fault("for 1 too 5 by 2:a;", 1, 6);
        fault("for 1 t 5 by 2:a;", 1, 6);
        fault("for 1 by 5 to 2:a;", 1, 6);
        fault("for 1 5 by 2:a;", 1, 6);
        fault("for 1 to 5 bye 2:a;", 1, 11);
        fault("for 1 to 5 b 2:a;", 1, 11);
        fault("for 1 to 5 to 2:a;", 1, 11);
        fault("for to 5 by 2:a;", 1, 4);
        fault("for 1 to by 2:a;", 1, 9);
        fault("for 1 to 5 by a;", 1, 14);
        fault("for 1 to 5 by 2 abc;", 1, 16);
        fault("word for;", 1, 5);
        fault("wordabcdefghijklmnop 5 a;", 1, 0);
        // Where letters are due, these words are letters like others.
        name("word 5 word;", 5, "word");
        name(HEAD + "for to by word;", 5, "for to by word");
    }

    // ---- "blanks (32) may stand anywhere but within words and numbers, but not behind '#'"

    private static final String[] TOKENS = {
        "word", "1", "one", ";", "for", "4", "to", "4", "by", "3", ":", "ab", "#q", "[", "cd", "#r", "]", "ef", "#q",
        "gh", ";"
    };

    private static String joined(int gap, String blanks) {
        StringBuilder text = new StringBuilder(gap == 0 ? blanks : "");
        for (int i = 0; i < TOKENS.length; i++) {
            text.append(TOKENS[i]).append(gap == i + 1 ? blanks : "");
        }
        return text.toString();
    }

    private static void blanksAnywhere() {
        String due = "ab one cd one ef one gh";
        name(String.join("", TOKENS), 4, due);
        name(String.join(" ", TOKENS), 4, due);
        name("  " + String.join("   ", TOKENS) + "  ", 4, due);
        for (int gap = 0; gap <= TOKENS.length; gap++) {
            name(joined(gap, " "), 4, due);
            name(joined(gap, "    "), 4, due);
        }
    }

    private static void blanksWithin() {
        fault("w ord 5 a;", 1, 0);
        fault("wo rd 5 a;", 1, 0);
        fault("wor d 5 a;", 1, 0);
        fault("f or 1 to 5 by 2:a;", 1, 0);
        fault("for 1 t o 5 by 2:a;", 1, 6);
        fault("for 1 to 5 b y 2:a;", 1, 11);
        fault("word 1 2 a;", 1, 7);
        fault("for 1 2 to 5 by 2:a;", 1, 6);
        fault("for 1 to 5 5 by 2:a;", 1, 11);
        fault("for 1 to 5 by 2 0:a;", 1, 16);
        fault("word 5 a b;", 1, 9);
        // Between the letters of a form they make two parts of one.
        sound(HEAD + "abcdefgh ijklmnop;", 1);
        sound(HEAD + "a b c d e f g h;", 1);
        fault(HEAD + "a b c d e f g h i;", 6, AT + 16);
    }

    private static void blankBehindHash() {
        fault(HEAD + "# q;", 1, AT + 1);
        fault(HEAD + "#   q;", 1, AT + 1);
        fault(HEAD + "[# r];", 1, AT + 2);
        fault(HEAD + "# ;", 1, AT + 1);
        fault(HEAD + "# ", 1, AT + 1);
        sound(HEAD + " #q ;", 1);
    }

    private static void otherSignsAreNoBlanks() {
        int[] signs = {0, 9, 10, 11, 12, 13, 31, 33, 95, 127, 128, 133, 160, 255};
        for (int c : signs) {
            for (int gap = 0; gap <= TOKENS.length; gap++) {
                String text = joined(gap, "" + (char) c);
                fault(text, 1, text.indexOf(c));
            }
        }
    }

    /** "two words or two numbers side by side need one; a number and letters do not". */
    private static void sideBySide() {
        fault("wordfor 5 a;", 1, 0);
        name(HEAD + "abcd;", 5, "abcd");
        name(HEAD + "ab cd;", 5, "ab cd");
        name("word12a;", 12, "a");
        fault("word1 2a;", 1, 6);
        name("word5a;", 5, "a");
        name("for1to5by2:a;", 5, "a");
        name("word 5a;", 5, "a");
        name("word5 a;", 5, "a");
    }

    /** "'#' and its letter stand side by side; letters may follow at once (another part)". */
    private static void lettersAtOnce() {
        name("word1a;for 3 to 3 by 3:#qq;", 3, "a q");
        name("word1a;for 3 to 3 by 3:#qb#qc#q;", 3, "a b a c a");
        sound(HEAD + "#qabcdefghijkl;", 1);
        fault(HEAD + "#qabcdefghijklm;", 4, AT + 14);
        sound(HEAD + "#qa#qa#qa#qa;", 1);
        fault(HEAD + "#qa#qa#qa#qa#q;", 6, AT + 12);
        fault(HEAD + "a#qa#qa#qa#qb;", 6, AT + 12);
        fault(HEAD + "##q;", 1, AT + 1);
    }

    // ---- "FAULTS, at the first byte that has one (the end at the text's length), of these the least"

    /** Cut off behind each of its bytes; a keyword that is cut is a word that cannot stand. */
    private static void everyCut() {
        String text = "word 12 abc;for 10 to 25 by 20:ab#q[#r c]d;";
        String[] keywords = {"word", "for", "to", "by"};
        for (int cut = 0; cut < text.length(); cut++) {
            int place = cut;
            for (String keyword : keywords) {
                int start = text.indexOf(keyword);
                place = start < cut && cut < start + keyword.length() ? start : place;
            }
            // Cut behind the 2 of 25, B is less than A.
            int lesserB = text.indexOf("25");
            if (cut == 0 || cut == text.indexOf("for")) {
                sound(text.substring(0, cut), cut == 0 ? 0 : 1);
            } else if (cut == lesserB + 1) {
                fault(text.substring(0, cut), 2, lesserB);
            } else {
                fault(text.substring(0, cut), 1, place);
            }
        }
        sound(text, 2);
    }

    private static void endBehindBlanks() {
        fault("word ", 1, 5);
        fault("word 5   ", 1, 9);
        fault("word 5 a  ", 1, 10);
        fault("for 1 to 5 by  ", 1, 15);
        fault(HEAD + "  ", 1, AT + 2);
        fault(HEAD + "a  ", 1, AT + 3);
        fault(HEAD + "[a  ", 1, AT + 4);
        sound("word 5 a;  ", 1);
    }

    private static void leastFaultOfOneByte() {
        String eight = "#q".repeat(8);
        String full = words(12);
        // 1 ahead of 2: a number of four figures where none can stand.
        fault("1234", 1, 0);
        fault("word 5 1234;", 1, 7);
        fault("word 5 a 1000;", 1, 9);
        fault(HEAD + "1234;", 1, AT);
        // 2 ahead of 3: four figures, and a word for 5 there is.
        fault("word 5 a;word 0005 b;", 2, 14);
        // 1 ahead of 5: what is no clause is not a thirteenth one.
        fault(full + "words 5 a;", 1, full.length());
        fault(full + "abcdefghijklm", 1, full.length());
        fault(full + "1000", 1, full.length());
        fault(full + ";", 1, full.length());
        fault(full + "#q", 1, full.length());
        // 1 ahead of 6: what is no part is not a ninth one.
        fault(HEAD + eight + "1000;", 1, AT + 16);
        fault(HEAD + eight + "];", 1, AT + 16);
        fault(HEAD + eight + ":", 1, AT + 16);
        fault(HEAD + eight, 1, AT + 16);
        fault(HEAD + "[" + eight + "[a]];", 1, AT + 17);
    }

    private static void firstByteOfSeveral() {
        String eight = "#q".repeat(8);
        String full = words(12);
        fault("word 1000 ?;word 5 a", 2, 5);
        fault("word ? 1000;", 1, 5);
        fault("word 5 abcdefghijklm?", 4, 19);
        fault("word 5 a;word 5 abcdefghijklm;", 3, 14);
        fault("word 5 abcdefghijklm;word 5 a;", 4, 19);
        fault("for 1000 to 5 by 1:a;", 2, 4);
        fault("for 6 to 5 by 1:a;", 2, 9);
        fault("for 5 to 5 by 1:?", 2, 14);
        // 5 at its first letter, whatever is wrong behind it.
        fault(full + "word 1000 a;", 5, full.length());
        fault(full + "word 5 a;", 5, full.length());
        fault(full + "word", 5, full.length());
        // 6 at its first byte, whatever is wrong behind it.
        fault(HEAD + eight + "#x;", 6, AT + 16);
        fault(HEAD + eight + "#", 6, AT + 16);
        fault(HEAD + eight + "abcdefghijklm;", 6, AT + 16);
        fault(HEAD + "[" + eight + "a[", 6, AT + 17);
        fault(HEAD + "abcdefghijklm" + eight + "#q;", 4, AT + 12);
    }

    /** "3 a word for an N that has one (at N)". */
    private static void secondWord() {
        sound("word 5 a;word 6 a;", 2);
        fault("word 5 a;word 5 b;", 3, 14);
        fault("word 5 a;word 5 a;", 3, 14);
        fault("word 5 a;word   005 b;", 3, 16);
        fault("word5a;word5b;", 3, 11);
        fault("word 5 a;word 5", 3, 14);
        fault("word 5 a;word 5 1234;", 3, 14);
        fault("word 0 a;word 000 b;", 3, 14);
        fault("word 999 a;word 1 b;word 999 c;", 3, 25);
        String eleven = words(11);
        sound(eleven + "word11a;", 12);
        fault(eleven + "word0a;", 3, eleven.length() + 4);
        fault(eleven + "word10a;", 3, eleven.length() + 4);
        // A form for N is no word for it.
        sound("for 5 to 5 by 2:a;word 5 b;", 2);
        sound("word 5 b;for 5 to 5 by 2:a;", 2);
        sound("for 5 to 5 by 2:a;for 5 to 5 by 2:a;", 2);
        fault("word 5 b;for 5 to 5 by 2:a;word 5 c;", 3, 32);
    }

    private static void secondWordOfAnotherText() {
        NumberWords x = CHECKS.told("word 5 a;");
        CHECKS.due("the same N in another tongue", Checks.readText(x, 1, "word 5 b;"), 1);
        CHECKS.due("the same N in the same tongue", Checks.readText(x, 0, "word 5 c;"), 1);
        CHECKS.due("its name", Checks.nameText(x, 0, 5), "c");
        CHECKS.due("a text with a fault", Checks.readText(x, 0, "word 7 a;?"), -11);
        CHECKS.due("its N once more", Checks.readText(x, 0, "word 7 b;"), 1);
        CHECKS.due("its name", Checks.nameText(x, 0, 7), "b");
    }

    /** "4 a thirteenth letter of a word (at it)". */
    private static void thirteenthLetter() {
        name("word 5 abcdefghijkl;", 5, "abcdefghijkl");
        fault("word 5 abcdefghijklm;", 4, 19);
        fault("word 5 abcdefghijklm", 4, 19);
        fault("word5abcdefghijklmnopqrstuvwxyz;", 4, 17);
        name(HEAD + "abcdefghijkl;", 5, "abcdefghijkl");
        fault(HEAD + "abcdefghijklm;", 4, AT + 12);
        fault(HEAD + "a abcdefghijklm;", 4, AT + 14);
        sound(HEAD + "[abcdefghijkl];", 1);
        fault(HEAD + "[abcdefghijklm];", 4, AT + 13);
        fault(HEAD + "#q#q#q#q#q#q#qabcdefghijklm;", 4, AT + 26);
        // Words of twelve letters, one behind the other.
        sound(HEAD + "abcdefghijkl abcdefghijkl;", 1);
    }

    /** "5 a thirteenth clause (at its first letter)". */
    private static void thirteenthClause() {
        String words = words(12);
        String forms = "for1to1by2:a;".repeat(12);
        String both = words(6) + "for1to1by2:a;".repeat(6);
        for (String twelve : new String[] {words, forms, both}) {
            int size = twelve.length();
            sound(twelve, 12);
            sound(twelve + "   ", 12);
            fault(twelve + "word 99 a;", 5, size);
            fault(twelve + "for 1 to 5 by 2:a;", 5, size);
            fault(twelve + "   for", 5, size + 3);
            fault(twelve + "word", 5, size);
        }
        CHECKS.due("the twelfth clause", CHECKS.told(words).by(0, 11), 11);
    }

    /** "6 a ninth part of a clause (at its first byte; brackets are none)". */
    private static void ninthPart() {
        String eight = "a b c d e f g h";
        name(HEAD + eight + ";", 5, eight);
        fault(HEAD + eight + " i;", 6, AT + 16);
        fault(HEAD + eight + "#q;", 6, AT + 15);
        fault(HEAD + eight + "[i];", 6, AT + 16);
        fault(HEAD + eight + "[  #q];", 6, AT + 18);
        fault(HEAD + eight + "[];", 1, AT + 16);
        name(HEAD + "[" + eight + "];", 5, eight);
        fault(HEAD + "[" + eight + " i];", 6, AT + 17);
        fault(HEAD + "[" + eight + "]i;", 6, AT + 17);
        name(HEAD + "a b c d[e f g h];", 5, eight);
        fault(HEAD + "a b c d[e f g h]i;", 6, AT + 16);
        name(HEAD + "[a][b][c][d][e][f][g][h];", 5, eight);
        fault(HEAD + "[a][b][c][d][e][f][g][h][i];", 6, AT + 25);
        // Each clause has its own eight.
        sound(HEAD + eight + ";" + HEAD + eight + ";", 2);
        sound(HEAD + eight + ";word 5 a;" + HEAD + eight + ";", 3);
        // A second word of a 'word' clause is no part.
        fault("word 5 a b c d e f g h i;", 1, 9);
    }
}
