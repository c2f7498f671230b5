import java.lang.management.ManagementFactory;
import java.lang.reflect.Array;
import java.lang.reflect.Field;
import java.lang.reflect.Modifier;
import java.util.ArrayList;
import java.util.Collections;
import java.util.IdentityHashMap;
import java.util.List;
import java.util.Set;

/**
 * All calls of a run live in one room: an object of the class is small, keeps what it was made of,
 * and its calls make nothing.
 */
final class RoomTest {
    private static final Check CHECK = new Check();
    private static final int MOST_OBJECTS = 100;
    private static final int MOST_FIELDS = 1000;
    private static final int RUNS = 200;

    public static void main(String[] args) throws IllegalAccessException {
        keepsWhatItWasMadeOf();
        callsMakeNothing();
        CHECK.end();
    }

    private static void keepsWhatItWasMadeOf() throws IllegalAccessException {
        CHECK.words("some 600,000 objects and arrays, 7.3 million fields and elements in all");
        WineByYears x = new WineByYears();
        List<Object> before = new ArrayList<>();
        int fields = reach(x, before);
        CHECK.due(before.size() + " objects", before.size() <= MOST_OBJECTS ? 1 : 0, 1);
        CHECK.due(fields + " fields and elements", fields <= MOST_FIELDS ? 1 : 0, 1);
        for (int part = 0; part < 4; part++) {
            calls(x);
        }
        List<Object> after = new ArrayList<>();
        CHECK.due("fields and elements behind the calls", reach(x, after), fields);
        boolean same = before.size() == after.size();
        for (int i = 0; same && i < before.size(); i++) {
            same = before.get(i) == after.get(i);
        }
        CHECK.due("the same objects behind the calls", same ? 1 : 0, 1);
    }

    /** All that can be reached from an object, in one order; how many fields and elements these have. */
    private static int reach(Object from, List<Object> found) throws IllegalAccessException {
        Set<Object> known = Collections.newSetFromMap(new IdentityHashMap<>());
        known.add(from);
        found.add(from);
        int fields = 0;
        for (int i = 0; i < found.size(); i++) {
            for (Object part : parts(found.get(i))) {
                fields++;
                if (isObject(part) && known.add(part)) {
                    found.add(part);
                }
            }
        }
        return fields;
    }

    /** A number comes out of its field in a box, which is none of the object's own. */
    private static boolean isObject(Object part) {
        return part != null && (part.getClass().isArray() || part.getClass().getName().startsWith("WineByYears"));
    }

    private static List<Object> parts(Object whole) throws IllegalAccessException {
        List<Object> parts = new ArrayList<>();
        if (whole.getClass().isArray()) {
            for (int i = 0; i < Array.getLength(whole); i++) {
                parts.add(Array.get(whole, i));
            }
            return parts;
        }
        for (Field field : whole.getClass().getDeclaredFields()) {
            if (!Modifier.isStatic(field.getModifiers())) {
                field.setAccessible(true);
                parts.add(field.get(whole));
            }
        }
        return parts;
    }

    private static void callsMakeNothing() {
        CHECK.words("make rows in constructors and use them again");
        var threads = (com.sun.management.ThreadMXBean) ManagementFactory.getThreadMXBean();
        if (!threads.isThreadAllocatedMemorySupported()) {
            return;
        }
        WineByYears[] objects = new WineByYears[RUNS];
        for (int run = 0; run < RUNS; run++) {
            objects[run] = new WineByYears();
        }
        calls(new WineByYears());
        threads.getCurrentThreadAllocatedBytes();
        long before = threads.getCurrentThreadAllocatedBytes();
        int sum = 0;
        for (WineByYears x : objects) {
            sum += calls(x);
        }
        long made = threads.getCurrentThreadAllocatedBytes() - before;
        // An object has 16 bytes at least, so one in each round of calls would be far above this.
        CHECK.due("bytes made by " + sum + " calls of " + RUNS + " objects: " + made, made < 16 * RUNS ? 1 : 0, 1);
    }

    /** Every call, refused and not, some hundred in all: how many. Nothing here makes an object. */
    private static int calls(WineByYears x) {
        int calls = 0;
        String text = "3;19,28,37,46,50";
        for (int i = 0; i < text.length(); i++) {
            x.letter(text.charAt(i));
        }
        x.fault();
        x.cellar();
        for (int kind = 0; kind <= 5; kind++) {
            x.person(kind, 2 * kind);
            x.births(kind);
            x.ask(kind);
            x.as(kind, 1);
            calls += 4;
        }
        x.image();
        for (int cask = 0; cask <= 5; cask++) {
            x.pour(cask, 4, 2);
            x.drink(cask, cask);
            x.trial(cask, cask % 2 == 0);
            x.trial(cask, false);
            x.cask(cask, 2);
            x.about(cask, 2);
            x.top(15, cask, 0);
            x.topped(cask, 8, 1);
            x.blend(cask, 20, 1);
            calls += 9;
        }
        x.table(31);
        x.feasts(60, 5, 1);
        x.count(2);
        x.digest();
        x.restore();
        x.forget();
        x.letter(48);
        x.blank();
        return calls + text.length() + 11;
    }
}
