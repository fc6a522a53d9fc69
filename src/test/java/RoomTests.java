import java.lang.reflect.Array;
import java.lang.reflect.Field;
import java.lang.reflect.Modifier;
import java.util.IdentityHashMap;
import java.util.Map;

/**
 * All that a run makes lives in one room of some 600,000 objects and arrays, 7.3 million fields and
 * elements. An object is small enough for a run that makes 512 of them; no call makes anything
 * (LanguageTests), and what an object holds is never given up for something else.
 */
public final class RoomTests {
    private static final int MOST_OBJECTS = 600_000 / 512;
    private static final int MOST_PLACES = 7_300_000 / 512;

    private static int wrong;

    private final Map<Object, Object> seen = new IdentityHashMap<>();
    private int places;

    private static RoomTests of(Object whole) throws IllegalAccessException {
        RoomTests room = new RoomTests();
        room.enter(whole);
        return room;
    }

    private void enter(Object one) throws IllegalAccessException {
        if (one == null || seen.put(one, one) != null) {
            return;
        }
        if (one.getClass().isArray()) {
            places += Array.getLength(one);
            for (int i = 0; i < Array.getLength(one) && one instanceof Object[]; i++) {
                enter(Array.get(one, i));
            }
            return;
        }
        for (Field field : one.getClass().getDeclaredFields()) {
            if (!Modifier.isStatic(field.getModifiers())) {
                places++;
                field.setAccessible(true);
                if (!field.getType().isPrimitive()) {
                    enter(field.get(one));
                }
            }
        }
    }

    private static void must(boolean holds, String what) {
        if (!holds) {
            wrong++;
            System.out.println(what);
        }
    }

    /** The dearest calls in turn, on the ground with the most cuttings. */
    private static void use(FenceTurns x) {
        int[] most = {14, 0, 22, 60, 24, 53, 55, 33, 27, 34, 41, 38, 26, 22, 36, 36};
        for (int i = 0; i < most.length; i += 2) {
            x.post(most[i], most[i + 1]);
        }
        for (int i = 8; i + 8 <= 512; i += 8) {
            x.lay();
            x.go(i % 150);
            x.far();
            x.way(149);
            x.apart(0);
            x.crossings(149);
            x.tell(27, 0);
            x.sheet(i % 4, 3, 20);
        }
    }

    public static void main(String[] args) throws IllegalAccessException {
        FenceTurns x = new FenceTurns();
        RoomTests first = of(x);
        use(x);
        RoomTests last = of(x);
        System.out.println(last.seen.size() + " objects and arrays, " + last.places + " fields and elements");
        must(last.seen.size() <= MOST_OBJECTS, "too many objects");
        must(last.places <= MOST_PLACES, "too many fields and elements");
        must(last.places == first.places, "an object grows with its calls");
        must(last.seen.keySet().equals(first.seen.keySet()), "calls put other objects into an object");
        if (wrong != 0) {
            System.exit(1);
        }
    }
}
