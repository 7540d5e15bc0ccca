import com.sun.management.ThreadMXBean;
import java.lang.management.ManagementFactory;
import java.lang.reflect.Array;
import java.lang.reflect.Field;
import java.lang.reflect.Modifier;
import java.util.ArrayDeque;
import java.util.Collections;
import java.util.Deque;
import java.util.IdentityHashMap;
import java.util.Set;

/** All calls of a run live in one room: rows are made with the object, and no call makes another one. */
public final class RoomTest {
    /** The room that a run has; a new object is held to a hundredth of it, although a run makes but one. */
    private static final int ROOM_OBJECTS = 600_000;
    private static final int ROOM_ELEMENTS = 7_300_000;
    private static final int SHARE = 100;
    private static final int ROUNDS = 20;

    private static final String TEXT = "word0nil;word1one;word2two;for 3 to 999 by 3:#q tri[and #r];";
    private static final String[] TEXTS = {
        TEXT, "", "word 1 one", "word 1 one; word 1 two;", "for 0 to 999 by 2:a;", "for 0 to 999 by 500:[a];"
    };
    private static final int CALLS = 25;

    private static final Checks CHECKS = new Checks();
    private static final ThreadMXBean ROOM = (ThreadMXBean) ManagementFactory.getThreadMXBean();

    public static void main(String[] args) throws IllegalAccessException {
        // What the machine itself makes when code runs for the first time is not the class's own.
        everyCall(false);
        reads(false);
        everyCall(true);
        reads(true);
        newObject();
        CHECKS.end();
    }

    private static long taken() {
        return ROOM.getCurrentThreadAllocatedBytes();
    }

    // ---- what calls make

    /** The bytes that one read() makes; to feed the text is no part of it. */
    private static long takenByRead(NumberWords x, int tongue, String text) {
        Checks.feedText(x, text);
        long before = taken();
        x.read(tongue);
        return taken() - before;
    }

    /** The first read() into a tongue makes no more than a later one, whatever text comes first. */
    private static void reads(boolean counted) {
        for (String text : TEXTS) {
            NumberWords x = new NumberWords();
            for (int tongue = 0; tongue < 3; tongue++) {
                long first = takenByRead(x, tongue, text);
                long sound = takenByRead(x, tongue, TEXT);
                long later = takenByRead(x, tongue, TEXT);
                if (counted) {
                    String what = " read of tongue " + tongue + ", at first " + text;
                    CHECKS.due("first" + what, first, later);
                    CHECKS.due("first sound" + what, sound, later);
                    CHECKS.due("later" + what, later, 0);
                }
            }
        }
    }

    /** Every call, on tongues that have never been read and then on those that have, makes nothing. */
    private static void everyCall(boolean counted) {
        NumberWords x = new NumberWords();
        for (int round = 0; round < ROUNDS; round++) {
            for (int call = 0; call < CALLS; call++) {
                long before = taken();
                oneCall(x, call, round);
                long made = taken() - before;
                if (counted) {
                    CHECKS.due("bytes of call " + call + " in round " + round, made, 0);
                }
            }
            Checks.readText(x, round % 3, TEXT);
        }
    }

    private static int oneCall(NumberWords x, int call, int i) {
        switch (call) {
            case 0: return x.feed(1, ' ');
            case 1: return x.read(i % 4);
            case 2: return x.fault();
            case 3: return x.about(i % 3, i % 7);
            case 4: return x.name(0, 7, 3);
            case 5: return x.letters(i % 3, 8);
            case 6: return x.by(i % 3, 9);
            case 7: return x.deep(i % 3, 10);
            case 8: return x.uses(1, i, 0, 999);
            case 9: return x.first(1, i);
            case 10: return x.song(1, 0, 999);
            case 11: return x.order(i % 3, i);
            case 12: return x.place(i % 3, i);
            case 13: return x.twins(i % 3, i % 3);
            case 14: return x.write('a' + i);
            case 15: return i % 9 == 0 ? x.clear() : x.write(' ');
            case 16: return x.find(0, i % 2 == 0, i % 3 - 1);
            case 17: return x.nearest(i % 3, 1);
            case 18: return x.led(0, 1, 0);
            case 19: return x.chain(2, i, 0);
            case 20: return x.honest(2, i);
            case 21: return x.far(2, 100, 200);
            case 22: return x.mixed(i % 3, 9, 100, 160);
            case 23: return x.square(0, 500, i, 2);
            default: return x.squares(i % 3, 400 + i);
        }
    }

    // ---- what an object has

    private static void newObject() throws IllegalAccessException {
        NumberWords x = new NumberWords();
        int[] made = objectsAndElements(x);
        boolean fewObjects = made[0] <= ROOM_OBJECTS / SHARE;
        boolean fewElements = made[1] <= ROOM_ELEMENTS / SHARE;
        CHECKS.due("few objects: " + made[0], fewObjects ? 1 : 0, 1);
        CHECKS.due("few fields and elements: " + made[1], fewElements ? 1 : 0, 1);
        for (int tongue = 0; tongue < 3; tongue++) {
            Checks.readText(x, tongue, TEXT);
        }
        int[] told = objectsAndElements(x);
        CHECKS.due("objects when all tongues are told", told[0], made[0]);
        CHECKS.due("fields and elements when all tongues are told", told[1], made[1]);
    }

    private static int[] objectsAndElements(NumberWords x) throws IllegalAccessException {
        Set<Object> seen = Collections.newSetFromMap(new IdentityHashMap<>());
        Deque<Object> open = new ArrayDeque<>();
        open.add(x);
        seen.add(x);
        int elements = 0;
        while (!open.isEmpty()) {
            Object one = open.remove();
            elements += one.getClass().isArray() ? lookAtArray(one, seen, open) : lookAtFields(one, seen, open);
        }
        return new int[] {seen.size(), elements};
    }

    private static int lookAtArray(Object array, Set<Object> seen, Deque<Object> open) {
        int length = Array.getLength(array);
        for (int i = 0; i < length && !array.getClass().getComponentType().isPrimitive(); i++) {
            lookAt(Array.get(array, i), seen, open);
        }
        return length;
    }

    private static int lookAtFields(Object one, Set<Object> seen, Deque<Object> open) throws IllegalAccessException {
        int fields = 0;
        for (Field field : one.getClass().getDeclaredFields()) {
            if (!Modifier.isStatic(field.getModifiers())) {
                fields++;
                field.setAccessible(true);
                if (!field.getType().isPrimitive()) {
                    lookAt(field.get(one), seen, open);
                }
            }
        }
        return fields;
    }

    private static void lookAt(Object next, Set<Object> seen, Deque<Object> open) {
        if (next != null && seen.add(next)) {
            open.add(next);
        }
    }
}
