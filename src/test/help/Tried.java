import java.lang.reflect.InvocationTargetException;
import java.lang.reflect.Method;
import java.lang.reflect.Modifier;
import java.util.HashMap;
import java.util.Map;
import java.util.StringJoiner;
import java.util.stream.LongStream;

/**
 * An object under test. Its calls are named by words, so that a wrong answer can be told just as
 * it was asked, and so that one list of calls can be made of several objects. A boolean is 0 or 1.
 */
final class Tried {
    static final int MIN = Integer.MIN_VALUE;
    static final int MAX = Integer.MAX_VALUE;

    /** 0:01 1:02 2:03 3:12 4:13 5:23; cuttings 47 (with 02), 61 (with 13). */
    static final int[] SQUARE = {0, 0, 4, 0, 4, 4, 0, 4};
    /** 0:01 1:02 2:12; one cutting, 7. */
    static final int[] TRIANGLE = {0, 0, 60, 0, 0, 60};
    /**
     * 0:01 1:02 2:03 3:04 4:12 5:13 6:14 7:23 8:24 9:34; by rank 671 {02,03}, 701 {03,13},
     * 761 {13,14}, 923 {02,24}, 985 {14,24}, besides the hems 665; turns lead round by the ranks
     * 0 1 2 4 3 0.
     */
    static final int[] PENTAGON = {2, 0, 6, 0, 8, 4, 4, 8, 0, 4};
    /**
     * A square with post 4 within, between the triangles 0 2 3 and 0 1 3; fences as in PENTAGON;
     * by rank 765 {13,14}, 927 {02,24}, 989 {14,24}, besides 669; turns lead by the ranks 0 2 1.
     */
    static final int[] KITE = {0, 0, 8, 0, 8, 8, 0, 8, 3, 4};
    /**
     * Convex: 0:01 1:02 2:03 3:04 4:05 5:12 6:13 7:14 8:15 9:23 10:24 11:25 12:34 13:35 14:45; 14
     * cuttings.
     */
    static final int[] HEXAGON = {0, 3, 2, 0, 5, 0, 7, 3, 5, 6, 2, 6};
    /** 0:01 1:12, in one line; one cutting, 3. */
    static final int[] LINE = {0, 0, 30, 0, 60, 0};
    /** Convex: all 28 fences; 132 cuttings. */
    static final int[] OCTAGON = {1, 0, 2, 0, 3, 1, 3, 2, 2, 3, 1, 3, 0, 2, 0, 1};
    /**
     * Each of posts 2 and 3 is off the line of 0 and 1 by a hair, on unlike sides of it, and so are
     * 0 and 1 of theirs; fences as in SQUARE; cuttings 31 (with 01), 62 (with 23): FENCE 0 is to turn.
     */
    static final int[] HAIR = {0, 0, 60, 59, 59, 58, 1, 1};
    /** Post 3 is within the other three by a hair; fences as in SQUARE; one cutting. */
    static final int[] HAIR_WITHIN = {0, 0, 60, 59, 0, 60, 1, 1};
    /** 0:01 1:03 2:12 3:13 4:23, for no fence is between 0 and 2; one cutting. */
    static final int[] ROW_AND_TOP = {0, 0, 30, 0, 60, 0, 30, 30};
    /** The most cuttings that eight posts have: 150; all 28 fences, hems by three posts. */
    static final int[] MOST = {14, 0, 22, 60, 24, 53, 55, 33, 27, 34, 41, 38, 26, 22, 36, 36};

    private static final int MOST_CALLS = 512;
    private static final Map<String, Method> CALLS = callsOfTheFace();

    private final FenceTurns object = new FenceTurns();
    private int calls;

    /** Numbers that are none of 0 .. many - 1: just off, far off, and like those in their lowest bits. */
    static long[] noneOf(int many) {
        return LongStream.of(-1, many, many + 1, 8, 27, 28, 32, 33, 59, 64, 256, 300, MIN, MIN + 1, MAX, -32, -256, -many)
                .filter(i -> i < 0 || i >= many).toArray();
    }

    static Tried made() {
        return new Tried();
    }

    static Tried collected(int... places) {
        return new Tried().posts(places);
    }

    static Tried laid(int... places) {
        return collected(places).with("lay");
    }

    /** A sheet of that lane with just these numbers, that came in one by one. */
    Tried row(int sheet, int lane, long... numbers) {
        with("sheet", sheet, lane, numbers.length);
        for (int i = 0; i < numbers.length; i++) {
            with("put", sheet, i, numbers[i]);
        }
        return this;
    }

    Tried posts(int... places) {
        for (int i = 0; i + 1 < places.length; i += 2) {
            with("post", places[i], places[i + 1]);
        }
        return this;
    }

    /** One call, whatever it answers. */
    Tried with(String name, long... arguments) {
        ask(name, arguments);
        return this;
    }

    /** One call, and what is due by the sentence at hand. */
    Tried due(long want, String name, long... arguments) {
        Sentences.due(told(name, arguments), ask(name, arguments), want);
        return this;
    }

    long ask(String name, long... arguments) {
        calls++;
        if (calls > MOST_CALLS) {
            throw new IllegalStateException("the document bounds the calls of one object");
        }
        Method call = CALLS.get(name);
        Object[] boxed = new Object[arguments.length];
        for (int i = 0; i < boxed.length; i++) {
            boxed[i] = boxed(call.getParameterTypes()[i], arguments[i]);
        }
        try {
            return ((Number) call.invoke(object, boxed)).longValue();
        } catch (IllegalAccessException e) {
            throw new IllegalStateException(e);
        } catch (InvocationTargetException e) {
            Sentences.fault(told(name, arguments) + " threw " + e.getCause());
            return Long.MIN_VALUE;
        }
    }

    static String told(String name, long... arguments) {
        StringJoiner told = new StringJoiner(", ", name + "(", ")");
        for (long argument : arguments) {
            told.add(Long.toString(argument));
        }
        return told.toString();
    }

    private static Object boxed(Class<?> type, long argument) {
        if (type == boolean.class) {
            return argument != 0;
        }
        if (type == long.class) {
            return argument;
        }
        return Math.toIntExact(argument);
    }

    private static Map<String, Method> callsOfTheFace() {
        Map<String, Method> calls = new HashMap<>();
        for (Method method : FenceTurns.class.getDeclaredMethods()) {
            if (Modifier.isPublic(method.getModifiers())) {
                calls.put(method.getName(), method);
            }
        }
        return calls;
    }
}
