/** What the tests share: counting answers that are not as due, and feeding texts. */
final class Checks {
    private int right;
    private int wrong;

    void due(String what, long got, long want) {
        if (got == want) {
            right++;
        } else {
            wrong++;
            System.out.println(what + " answered " + got + ", due is " + want);
        }
    }

    void due(String what, String got, String want) {
        if (got.equals(want)) {
            right++;
        } else {
            wrong++;
            System.out.println(what + " answered \"" + got + "\", due is \"" + want + "\"");
        }
    }

    /** Prints the sum and ends the program with 1 if an answer was wrong. */
    void end() {
        System.out.println(right + " answers as due, " + wrong + " not");
        if (wrong != 0) {
            System.exit(1);
        }
    }

    static void feedText(NumberWords x, String text) {
        for (int from = 0; from < text.length(); from += 8) {
            int end = Math.min(from + 8, text.length());
            long bytes = 0;
            for (int i = from; i < end; i++) {
                bytes = bytes << 8 | text.charAt(i) & 255;
            }
            x.feed(end - from, bytes);
        }
    }

    static int readText(NumberWords x, int tongue, String text) {
        feedText(x, text);
        return x.read(tongue);
    }

    static void writeDraft(NumberWords x, String draft) {
        x.clear();
        for (int i = 0; i < draft.length(); i++) {
            x.write(draft.charAt(i));
        }
    }

    /** A NAME as name() tells it byte by byte; "-" if there is none. */
    static String nameText(NumberWords x, int tongue, int n) {
        int size = x.name(tongue, n, NumberWords.NONE);
        if (size < 0) {
            return "-";
        }
        StringBuilder name = new StringBuilder();
        for (int i = 0; i < size; i++) {
            name.append((char) x.name(tongue, n, i));
        }
        return name.toString();
    }
}
