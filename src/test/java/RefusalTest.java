import java.util.ArrayList;
import java.util.List;
import java.util.function.Supplier;
import java.util.function.ToIntFunction;

/**
 * "REFUSALS, of several the first in this order: UNKNOWN, OUTSIDE, NOT, FULL. What is refused changes nothing."
 *
 * <p>Each call that is refused is made on objects in several states, each time on an object of its own; then a
 * look at all that the object tells must be the same as without that call. So it must be behind every question
 * that is answered, for only feed, read, write and clear change anything.
 */
public final class RefusalTest {
    private static final int NONE = NumberWords.NONE, UNKNOWN = NumberWords.UNKNOWN;
    private static final int OUTSIDE = NumberWords.OUTSIDE, NOT = NumberWords.NOT, FULL = NumberWords.FULL;
    private static final int LEAST = Integer.MIN_VALUE, GREATEST = Integer.MAX_VALUE;
    private static final int[] WRONG_TONGUES = {-1, 3, LEAST, GREATEST};
    private static final int[] WRONG_NUMBERS = {-1, 1000, LEAST, GREATEST};
    private static final int[] LOOKED_AT = {0, 1, 2, 5, 12, 18, 20, 999};

    private static final String ENGLISH = "word1one;word2two;word3three;word10ten;word20twenty;"
            + "for 11 to 13 by 10:#r and #t;for 17 to 19 by 10:#c from #n;for 0 to 0 by 2:[x];";
    private static final String FRENCH = "word1un;word2deux;word10dix;for 11 to 13 by 10:#t[#r];word20dix;";
    private static final String TWELVE = "abcdefghijkl";
    private static final String LONG_NAME = "word1" + TWELVE + ";for 5 to 5 by 2:#r#r#r#r abcdefgh;";
    private static final String SIXTY = TWELVE + " " + TWELVE + " " + TWELVE + " " + TWELVE + " abcdefgh";

    private static final Checks CHECKS = new Checks();

    private record Call(String text, int due, ToIntFunction<NumberWords> made) { }

    private record State(String name, Supplier<NumberWords> made) { }

    private static final State NEW = new State("a new object", NumberWords::new);
    private static final State USED = new State("a used object", RefusalTest::used);
    private static final State ALMOST = new State("an object with room for one byte", RefusalTest::almostFull);
    private static final State WHOLE = new State("a full object", RefusalTest::full);
    private static final State[] STATES = {NEW, USED, ALMOST, WHOLE};

    public static void main(String[] args) {
        statesAreAsMeant();
        List<Call> anywhere = new ArrayList<>();
        addWrongTongues(anywhere);
        addWrongNumbers(anywhere);
        addOutside(anywhere);
        addOutsideOfMixedAndSquare(anywhere);
        for (State state : STATES) {
            dueUnchanged(state, anywhere);
            dueUnchanged(state, answered());
        }
        dueUnchanged(NEW, notInNew());
        dueUnchanged(USED, notInUsed());
        dueUnchanged(ALMOST, fullButForOne());
        dueUnchanged(WHOLE, fullOfAll());
        unknownReadKeepsTheText();
        CHECKS.end();
    }

    // ---- states

    private static NumberWords used() {
        NumberWords x = new NumberWords();
        Checks.readText(x, 0, ENGLISH);
        Checks.readText(x, 1, FRENCH);
        Checks.readText(x, 1, "word 5 fault");
        Checks.feedText(x, "word 7 sept;");
        Checks.writeDraft(x, "two and ten");
        return x;
    }

    private static NumberWords almostFull() {
        NumberWords x = new NumberWords();
        Checks.readText(x, 0, LONG_NAME);
        Checks.readText(x, 1, "?");
        Checks.feedText(x, " ".repeat(227) + "word7sept; a");
        Checks.writeDraft(x, SIXTY.substring(0, 59));
        return x;
    }

    private static NumberWords full() {
        NumberWords x = new NumberWords();
        Checks.readText(x, 0, LONG_NAME);
        Checks.readText(x, 2, ENGLISH);
        Checks.feedText(x, " ".repeat(230) + "word7sept;");
        Checks.writeDraft(x, SIXTY);
        return x;
    }

    /** Else a look might see nothing that could change. */
    private static void statesAreAsMeant() {
        NumberWords used = used();
        CHECKS.due("the used draft is a name", used.find(0, false, 0), 12);
        CHECKS.due("it has one in the other tongue", used.led(0, 1, NONE), 8);
        CHECKS.due("the used tongue has twins", used.twins(1, 1), 20);
        CHECKS.due("the used text has bytes", used.about(0, 5), 12);
        CHECKS.due("the latest read had a fault", used.fault(), 12);
        NumberWords almost = almostFull();
        CHECKS.due("room for a byte of the text", almost.about(0, 5), 239);
        CHECKS.due("room for a byte of the draft", almost.about(0, 6), 59);
        NumberWords full = full();
        CHECKS.due("the full text", full.about(0, 5), 240);
        CHECKS.due("the full draft", full.about(0, 6), 60);
        CHECKS.due("the full draft is a name", full.find(0, false, 0), 5);
    }

    /** All that an object tells; at last THE DRAFT is cleared and THE TEXT is read, to see what they held. */
    private static List<Integer> look(NumberWords x) {
        List<Integer> seen = new ArrayList<>();
        seen.add(x.fault());
        for (int tongue = 0; tongue <= 2; tongue++) {
            lookAtTongue(x, tongue, seen);
        }
        for (int tongue = 0; tongue <= 2; tongue++) {
            lookAtDraft(x, tongue, seen);
        }
        seen.add(x.write('z'));
        lookAtDraft(x, 0, seen);
        seen.add(x.clear());
        lookAtDraft(x, 0, seen);
        seen.add(x.feed(1, ' '));
        seen.add(x.read(1));
        seen.add(x.fault());
        seen.add(x.about(1, 0));
        seen.add(x.about(1, 1));
        for (int i = -1; i < 5; i++) {
            seen.add(x.name(1, 7, i));
        }
        return seen;
    }

    private static void lookAtTongue(NumberWords x, int tongue, List<Integer> seen) {
        for (int what = 0; what <= 6; what++) {
            seen.add(x.about(tongue, what));
        }
        for (int n : LOOKED_AT) {
            seen.add(x.name(tongue, n, NONE));
            seen.add(x.name(tongue, n, 0));
            seen.add(x.by(tongue, n));
            seen.add(x.deep(tongue, n));
            seen.add(x.place(tongue, n));
        }
        for (int i = 0; i <= 2; i++) {
            seen.add(x.twins(tongue, i));
            seen.add(x.order(tongue, i));
            seen.add(x.chain(tongue, 2, i));
        }
        seen.add(x.song(tongue, 0, 999));
        seen.add(x.mixed(tongue, 9, 0, 20));
    }

    private static void lookAtDraft(NumberWords x, int tongue, List<Integer> seen) {
        seen.add(x.find(tongue, false, 0));
        seen.add(x.find(tongue, true, 0));
        seen.add(x.nearest(tongue, 0));
        seen.add(x.nearest(tongue, 1));
        for (int other = 0; other <= 2; other++) {
            seen.add(x.led(tongue, other, 0));
        }
    }

    private static void dueUnchanged(State state, List<Call> calls) {
        List<Integer> untouched = look(state.made.get());
        for (Call call : calls) {
            String what = call.text + " of " + state.name;
            NumberWords x = state.made.get();
            int got = call.made.applyAsInt(x);
            if (call.due != ANY) {
                CHECKS.due(what, got, call.due);
                CHECKS.due(what + " once more", call.made.applyAsInt(x), call.due);
            }
            CHECKS.due("a look behind " + what, look(x).toString(), untouched.toString());
        }
    }

    // ---- UNKNOWN, whatever else there is

    private static void add(List<Call> calls, String text, int due, ToIntFunction<NumberWords> made) {
        calls.add(new Call(text, due, made));
    }

    private static void addWrongTongues(List<Call> calls) {
        for (int t : WRONG_TONGUES) {
            add(calls, "read(" + t + ")", UNKNOWN, x -> x.read(t));
            add(calls, "about(" + t + ", 0)", UNKNOWN, x -> x.about(t, 0));
            add(calls, "about(" + t + ", 7)", UNKNOWN, x -> x.about(t, 7));
            add(calls, "name(" + t + ", 1, 0)", UNKNOWN, x -> x.name(t, 1, 0));
            add(calls, "name(" + t + ", 1000, 0)", UNKNOWN, x -> x.name(t, 1000, 0));
            add(calls, "letters(" + t + ", 1)", UNKNOWN, x -> x.letters(t, 1));
            add(calls, "by(" + t + ", 1)", UNKNOWN, x -> x.by(t, 1));
            add(calls, "deep(" + t + ", 1)", UNKNOWN, x -> x.deep(t, 1));
            add(calls, "uses(" + t + ", 0, 1, 2)", UNKNOWN, x -> x.uses(t, 0, 1, 2));
            add(calls, "uses(" + t + ", 26, 1, 2)", UNKNOWN, x -> x.uses(t, 26, 1, 2));
            add(calls, "uses(" + t + ", 0, 2, 1)", UNKNOWN, x -> x.uses(t, 0, 2, 1));
            add(calls, "first(" + t + ", 0)", UNKNOWN, x -> x.first(t, 0));
            add(calls, "first(" + t + ", 26)", UNKNOWN, x -> x.first(t, 26));
            add(calls, "song(" + t + ", 1, 2)", UNKNOWN, x -> x.song(t, 1, 2));
            add(calls, "song(" + t + ", 2, 1)", UNKNOWN, x -> x.song(t, 2, 1));
            add(calls, "order(" + t + ", 0)", UNKNOWN, x -> x.order(t, 0));
            add(calls, "place(" + t + ", 1)", UNKNOWN, x -> x.place(t, 1));
            add(calls, "twins(" + t + ", 0)", UNKNOWN, x -> x.twins(t, 0));
            add(calls, "twins(" + t + ", 3)", UNKNOWN, x -> x.twins(t, 3));
            add(calls, "find(" + t + ", false, 0)", UNKNOWN, x -> x.find(t, false, 0));
            add(calls, "find(" + t + ", true, -1)", UNKNOWN, x -> x.find(t, true, NONE));
            add(calls, "nearest(" + t + ", 0)", UNKNOWN, x -> x.nearest(t, 0));
            add(calls, "nearest(" + t + ", 2)", UNKNOWN, x -> x.nearest(t, 2));
            add(calls, "led(" + t + ", 0, 0)", UNKNOWN, x -> x.led(t, 0, 0));
            add(calls, "led(0, " + t + ", 0)", UNKNOWN, x -> x.led(0, t, 0));
            add(calls, "led(1, " + t + ", 0), no NUMBER in 1", UNKNOWN, x -> x.led(1, t, 0));
            add(calls, "chain(" + t + ", 1, 0)", UNKNOWN, x -> x.chain(t, 1, 0));
            add(calls, "chain(" + t + ", 1, 3)", UNKNOWN, x -> x.chain(t, 1, 3));
            add(calls, "honest(" + t + ", 0)", UNKNOWN, x -> x.honest(t, 0));
            add(calls, "far(" + t + ", 1, 2)", UNKNOWN, x -> x.far(t, 1, 2));
            add(calls, "mixed(" + t + ", 0, 1, 2)", UNKNOWN, x -> x.mixed(t, 0, 1, 2));
            add(calls, "mixed(" + t + ", 10, 1, 2)", UNKNOWN, x -> x.mixed(t, 10, 1, 2));
            add(calls, "mixed(" + t + ", 0, 1, 62)", UNKNOWN, x -> x.mixed(t, 0, 1, 62));
            add(calls, "square(" + t + ", 5, 3, 1)", UNKNOWN, x -> x.square(t, 5, 3, 1));
            add(calls, "square(" + t + ", 1000, 0, 0)", UNKNOWN, x -> x.square(t, 1000, 0, 0));
            add(calls, "square(" + t + ", 5, 1000, 0)", UNKNOWN, x -> x.square(t, 5, 1000, 0));
            add(calls, "squares(" + t + ", 5)", UNKNOWN, x -> x.squares(t, 5));
        }
    }

    private static void addWrongNumbers(List<Call> calls) {
        for (int n : WRONG_NUMBERS) {
            add(calls, "name(0, " + n + ", 0)", UNKNOWN, x -> x.name(0, n, 0));
            add(calls, "letters(0, " + n + ")", UNKNOWN, x -> x.letters(0, n));
            add(calls, "by(0, " + n + ")", UNKNOWN, x -> x.by(0, n));
            add(calls, "deep(0, " + n + ")", UNKNOWN, x -> x.deep(0, n));
            add(calls, "uses(0, 0, " + n + ", 999)", UNKNOWN, x -> x.uses(0, 0, n, 999));
            add(calls, "uses(0, 0, 0, " + n + ")", UNKNOWN, x -> x.uses(0, 0, 0, n));
            add(calls, "uses(0, 26, 0, " + n + ")", UNKNOWN, x -> x.uses(0, 26, 0, n));
            add(calls, "uses(0, 26, " + n + ", 0)", UNKNOWN, x -> x.uses(0, 26, n, 0));
            add(calls, "song(0, " + n + ", 999)", UNKNOWN, x -> x.song(0, n, 999));
            add(calls, "song(0, 0, " + n + ")", UNKNOWN, x -> x.song(0, 0, n));
            add(calls, "place(0, " + n + ")", UNKNOWN, x -> x.place(0, n));
            add(calls, "chain(0, " + n + ", 0)", UNKNOWN, x -> x.chain(0, n, 0));
            add(calls, "chain(0, " + n + ", 3)", UNKNOWN, x -> x.chain(0, n, 3));
            add(calls, "far(0, " + n + ", 1)", UNKNOWN, x -> x.far(0, n, 1));
            add(calls, "far(0, 1, " + n + ")", UNKNOWN, x -> x.far(0, 1, n));
            add(calls, "mixed(0, 0, " + n + ", 5)", UNKNOWN, x -> x.mixed(0, 0, n, 5));
            add(calls, "mixed(0, 0, 995, " + n + ")", UNKNOWN, x -> x.mixed(0, 0, 995, n));
            add(calls, "mixed(0, 10, 0, " + n + ")", UNKNOWN, x -> x.mixed(0, 10, 0, n));
            add(calls, "squares(0, " + n + ")", UNKNOWN, x -> x.squares(0, n));
            // Of square the document says that UNKNOWN is for the tongue alone.
            add(calls, "square(0, " + n + ", 0, 0)", OUTSIDE, x -> x.square(0, n, 0, 0));
        }
    }

    // ---- OUTSIDE, ahead of FULL

    private static void addOutside(List<Call> calls) {
        for (int n : new int[] {0, 9, -1, LEAST, GREATEST}) {
            add(calls, "feed(" + n + ", ..)", OUTSIDE, x -> x.feed(n, 0x2020202020202020L));
        }
        for (int c : new int[] {31, 33, 96, 123, 0, -1, 256 + 32, 256 + 97, LEAST, GREATEST}) {
            add(calls, "write(" + c + ")", OUTSIDE, x -> x.write(c));
        }
        for (int letter : new int[] {-1, 26, LEAST, GREATEST}) {
            add(calls, "uses(0, " + letter + ", 0, 999)", OUTSIDE, x -> x.uses(0, letter, 0, 999));
            add(calls, "first(0, " + letter + ")", OUTSIDE, x -> x.first(0, letter));
        }
        for (int what : new int[] {-1, 7, LEAST, GREATEST}) {
            add(calls, "about(0, " + what + ")", OUTSIDE, x -> x.about(0, what));
        }
        for (int what : new int[] {-1, 3, LEAST, GREATEST}) {
            add(calls, "twins(0, " + what + ")", OUTSIDE, x -> x.twins(0, what));
            add(calls, "chain(0, 2, " + what + ")", OUTSIDE, x -> x.chain(0, 2, what));
        }
        for (int what : new int[] {-1, 2, LEAST, GREATEST}) {
            add(calls, "nearest(0, " + what + ")", OUTSIDE, x -> x.nearest(0, what));
        }
        add(calls, "uses(0, 0, 1, 0)", OUTSIDE, x -> x.uses(0, 0, 1, 0));
        add(calls, "uses(0, 26, 999, 0)", OUTSIDE, x -> x.uses(0, 26, 999, 0));
        add(calls, "song(0, 1, 0)", OUTSIDE, x -> x.song(0, 1, 0));
        add(calls, "song(0, 999, 998)", OUTSIDE, x -> x.song(0, 999, 998));
    }

    private static void addOutsideOfMixedAndSquare(List<Call> calls) {
        for (int d : new int[] {-1, 10, LEAST, GREATEST}) {
            add(calls, "mixed(0, " + d + ", 0, 20)", OUTSIDE, x -> x.mixed(0, d, 0, 20));
        }
        add(calls, "mixed(0, 9, 0, 61)", OUTSIDE, x -> x.mixed(0, 9, 0, 61));
        add(calls, "mixed(0, 9, 938, 999)", OUTSIDE, x -> x.mixed(0, 9, 938, 999));
        add(calls, "mixed(0, 9, 1, 0)", OUTSIDE, x -> x.mixed(0, 9, 1, 0));
        for (int step : new int[] {-1000, 1000, LEAST, GREATEST}) {
            add(calls, "square(0, 500, " + step + ", 0)", OUTSIDE, x -> x.square(0, 500, step, 0));
            add(calls, "square(0, 500, 0, " + step + ")", OUTSIDE, x -> x.square(0, 500, 0, step));
            add(calls, "square(0, 0, " + step + ", 999)", OUTSIDE, x -> x.square(0, 0, step, 999));
        }
    }

    // ---- NOT and FULL, in the states that bring them

    private static List<Call> notInNew() {
        List<Call> calls = new ArrayList<>();
        add(calls, "led(0, 0, -1)", NOT, x -> x.led(0, 0, NONE));
        add(calls, "led(0, 1, 0)", NOT, x -> x.led(0, 1, 0));
        add(calls, "led(2, 2, -2)", NOT, x -> x.led(2, 2, -2));
        return calls;
    }

    private static List<Call> notInUsed() {
        List<Call> calls = new ArrayList<>();
        add(calls, "led(1, 0, -1), no NUMBER in 1", NOT, x -> x.led(1, 0, NONE));
        add(calls, "led(2, 0, 0), no NAMES in 2", NOT, x -> x.led(2, 0, 0));
        add(calls, "led(0, 2, 0), no NAME in 2", NOT, x -> x.led(0, 2, 0));
        add(calls, "led(0, 2, -2), no NAME in 2", NOT, x -> x.led(0, 2, -2));
        return calls;
    }

    private static List<Call> fullButForOne() {
        List<Call> calls = new ArrayList<>();
        for (int n = 2; n <= 8; n++) {
            int count = n;
            add(calls, "feed(" + n + ", ..)", FULL, x -> x.feed(count, 0x3B3B3B3B3B3B3B3BL));
        }
        return calls;
    }

    private static List<Call> fullOfAll() {
        List<Call> calls = new ArrayList<>();
        for (int n = 1; n <= 8; n++) {
            int count = n;
            add(calls, "feed(" + n + ", ..)", FULL, x -> x.feed(count, 0x3B3B3B3B3B3B3B3BL));
        }
        add(calls, "write('a')", FULL, x -> x.write('a'));
        add(calls, "write('z')", FULL, x -> x.write('z'));
        add(calls, "write(' ')", FULL, x -> x.write(' '));
        add(calls, "led(0, 1, 0), no NAME in 1", NOT, x -> x.led(0, 1, 0));
        return calls;
    }

    // ---- questions that are answered: whatever the answer, nothing changes

    /** The answer is not looked at here. */
    private static final int ANY = Integer.MIN_VALUE;

    private static List<Call> answered() {
        List<Call> calls = new ArrayList<>();
        add(calls, "fault()", ANY, NumberWords::fault);
        for (int tongue = 0; tongue <= 2; tongue++) {
            int t = tongue;
            add(calls, "about", ANY, x -> x.about(t, 4));
            add(calls, "name", ANY, x -> x.name(t, 5, 0));
            add(calls, "letters", ANY, x -> x.letters(t, 5));
            add(calls, "by", ANY, x -> x.by(t, 5));
            add(calls, "deep", ANY, x -> x.deep(t, 5));
            add(calls, "uses", ANY, x -> x.uses(t, 0, 0, 999));
            add(calls, "first", ANY, x -> x.first(t, 25));
            add(calls, "song", ANY, x -> x.song(t, 0, 999));
            add(calls, "order", ANY, x -> x.order(t, 0));
            add(calls, "place", ANY, x -> x.place(t, 5));
            add(calls, "twins", ANY, x -> x.twins(t, 0));
            add(calls, "find", ANY, x -> x.find(t, false, 0));
            add(calls, "find of a run", ANY, x -> x.find(t, true, NONE));
            add(calls, "nearest", ANY, x -> x.nearest(t, 1));
            add(calls, "led", ANY, x -> x.led(0, t, NONE));
            add(calls, "chain", ANY, x -> x.chain(t, 5, 0));
            add(calls, "honest", ANY, x -> x.honest(t, 0));
            add(calls, "far", ANY, x -> x.far(t, 1, 5));
            add(calls, "mixed", ANY, x -> x.mixed(t, 9, 0, 60));
            add(calls, "square", ANY, x -> x.square(t, 5, 3, 1));
            add(calls, "squares", ANY, x -> x.squares(t, 500));
        }
        return calls;
    }

    /** "UNKNOWN (THE TEXT stays)", and with it the fault of the read ahead of it. */
    private static void unknownReadKeepsTheText() {
        for (int t : WRONG_TONGUES) {
            NumberWords x = used();
            CHECKS.due("read(" + t + ")", x.read(t), UNKNOWN);
            CHECKS.due("bytes of the text", x.about(0, 5), 12);
            CHECKS.due("the fault ahead of it", x.fault(), 12);
            CHECKS.due("the text can be gone on with", x.feed(8, 0x776F72643878_3B20L), 20);
            CHECKS.due("and read", x.read(2), 2);
            CHECKS.due("its name", Checks.nameText(x, 2, 7), "sept");
            CHECKS.due("what came behind it", Checks.nameText(x, 2, 8), "x");
        }
    }
}
