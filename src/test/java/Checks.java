/** What the tests share: counting answers that are not as due, and feeding texts. */
final class Checks {
    private int right;
    private int wrong;

    void due(String what, long got, long want) {
        if (got == want) {
            right++;
        } else {
            wrong++;
            System.out.println(what + " answered " + got + ", due is " + want);
        }
    }

    void due(String what, String got, String want) {
        if (got.equals(want)) {
            right++;
        } else {
            wrong++;
            System.out.println(what + " answered \"" + got + "\", due is \"" + want + "\"");
        }
    }

    /** Prints the sum and ends the program with 1 if an answer was wrong. */
    void end() {
        System.out.println(right + " answers as due, " + wrong + " not");
        if (wrong != 0) {
            System.exit(1);
        }
    }

    /** A new object with this text as its tongue 0; a fault of the text is a wrong answer. */
    NumberWords told(String text) {
        NumberWords x = new NumberWords();
        int clauses = readText(x, 0, text);
        due("fault of " + text, x.fault(), NumberWords.NONE);
        due("clauses of " + text, x.about(0, 0), clauses);
        return x;
    }

    /** The NAME of n by a text; "-" stands for none. */
    void dueName(String text, int n, String name) {
        due("name of " + n + " by " + text, nameText(told(text), 0, n), name);
    }

    /** The text is read whole, into a tongue that had a word of another text. */
    void dueSound(String text, int clauses) {
        NumberWords x = withOldWord();
        feedWhole(x, text);
        due("read of " + text, x.read(1), clauses);
        due("fault of " + text, x.fault(), NumberWords.NONE);
        due("clauses of " + text, x.about(1, 0), clauses);
        due("text behind " + text, x.about(1, 5), 0);
    }

    /** The text has its first fault there, and the tongue is as it was. */
    void dueFault(String text, int number, int place) {
        NumberWords x = withOldWord();
        feedWhole(x, text);
        due("read of " + text, x.read(1), -10 - number);
        due("fault of " + text, x.fault(), place);
        due("clauses behind the fault of " + text, x.about(1, 0), 1);
        due("names behind the fault of " + text, x.about(1, 1), 1);
        due("the name behind the fault of " + text, nameText(x, 1, 3), "old");
        due("text behind the fault of " + text, x.about(1, 5), 0);
    }

    private static NumberWords withOldWord() {
        NumberWords x = new NumberWords();
        readText(x, 1, "word 3 old;");
        return x;
    }

    private void feedWhole(NumberWords x, String text) {
        feedText(x, text);
        due("bytes of " + text, x.about(1, 5), text.length());
    }

    static void feedText(NumberWords x, String text) {
        for (int from = 0; from < text.length(); from += 8) {
            int end = Math.min(from + 8, text.length());
            long bytes = 0;
            for (int i = from; i < end; i++) {
                bytes = bytes << 8 | text.charAt(i) & 255;
            }
            x.feed(end - from, bytes);
        }
    }

    static int readText(NumberWords x, int tongue, String text) {
        feedText(x, text);
        return x.read(tongue);
    }

    static void writeDraft(NumberWords x, String draft) {
        x.clear();
        for (int i = 0; i < draft.length(); i++) {
            x.write(draft.charAt(i));
        }
    }

    /** A NAME as name() tells it byte by byte; "-" if there is none. */
    static String nameText(NumberWords x, int tongue, int n) {
        int size = x.name(tongue, n, NumberWords.NONE);
        if (size < 0) {
            return "-";
        }
        StringBuilder name = new StringBuilder();
        for (int i = 0; i < size; i++) {
            name.append((char) x.name(tongue, n, i));
        }
        return name.toString();
    }
}
