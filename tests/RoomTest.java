import java.lang.reflect.Array;
import java.lang.reflect.Field;
import java.lang.reflect.Modifier;
import java.util.ArrayDeque;
import java.util.Collections;
import java.util.IdentityHashMap;
import java.util.Random;
import java.util.Set;

/**
 * How much room an object takes: what it holds after 512 calls, in objects and arrays, and in fields and elements.
 * That no call throws anything away is looked at by LanguageTest: objects are made for keeping alone.
 */
public final class RoomTest {
    private static final int CALLS = 512;
    private static final int MOST_OBJECTS = 250;
    private static final int MOST_CELLS = 2500;

    private static int wrong = 0;

    public static void main(String[] args) throws IllegalAccessException {
        int[] first = room(new TokenReviews());
        int[] most = {0, 0};
        for (int seed = 0; seed < 20; seed++) {
            int[] room = room(used(seed));
            most[0] = Math.max(most[0], room[0]);
            most[1] = Math.max(most[1], room[1]);
        }
        if (most[0] > MOST_OBJECTS || most[1] > MOST_CELLS) {
            fail("more room than " + MOST_OBJECTS + " objects and " + MOST_CELLS + " fields and elements");
        }
        System.out.println("RoomTest: a new object holds " + first[0] + " objects and arrays, " + first[1]
                + " fields and elements; one after " + CALLS + " calls " + most[0] + " and " + most[1]);
        if (wrong != 0) {
            System.exit(1);
        }
    }

    private static void fail(String text) {
        wrong++;
        System.out.println("RoomTest: " + text);
    }

    /** Every call that may keep something, and the dearest looks. */
    private static TokenReviews used(int seed) {
        Random random = new Random(seed);
        TokenReviews x = new TokenReviews();
        for (int call = 0; call < CALLS; call++) {
            try {
                doesSome(x, random);
            } catch (IllegalArgumentException | IllegalStateException | IndexOutOfBoundsException e) {
                // what is thrown is for others to look at
                continue;
            }
        }
        return x;
    }

    private static void doesSome(TokenReviews x, Random random) {
        int a = random.nextInt(8);
        int b = random.nextInt(8);
        switch (random.nextInt(18)) {
            case 0: x.paper(a / 2, 1 << b); break;
            case 1: x.topics(a, 15 - b); break;
            case 2: x.meet(a, b); break;
            case 3: x.set(a / 2, b); break;
            case 4: x.bring(1 + a); break;
            case 5: x.week(); break;
            case 6: x.take(a, b); break;
            case 7: x.write(a, b, random.nextInt(10)); break;
            case 8: x.drop(a, b); break;
            case 9: x.discuss(a); break;
            case 10: x.rebut(a); break;
            case 11: x.decide(a); break;
            case 12: x.append("w;".charAt(x.firstError() % 2)); break;
            case 13: x.run(); break;
            case 14: x.keep(a % 2); break;
            case 15: x.goBack(a % 2); break;
            case 16: x.undo(); break;
            default: x.digest(); break;
        }
    }

    /** Objects and arrays that can be reached, and their fields and elements. */
    private static int[] room(TokenReviews x) throws IllegalAccessException {
        Set<Object> seen = Collections.newSetFromMap(new IdentityHashMap<>());
        ArrayDeque<Object> open = new ArrayDeque<>();
        open.add(x);
        seen.add(x);
        int cells = 0;
        while (!open.isEmpty()) {
            Object next = open.remove();
            cells += next.getClass().isArray() ? lookIntoArray(next, seen, open) : lookInto(next, seen, open);
        }
        return new int[] {seen.size(), cells};
    }

    private static int lookIntoArray(Object array, Set<Object> seen, ArrayDeque<Object> open) {
        int length = Array.getLength(array);
        for (int i = 0; i < length && !array.getClass().getComponentType().isPrimitive(); i++) {
            reach(Array.get(array, i), seen, open);
        }
        return length;
    }

    private static int lookInto(Object object, Set<Object> seen, ArrayDeque<Object> open)
            throws IllegalAccessException {
        if (!object.getClass().getName().startsWith("TokenReviews")) {
            fail("it holds an object of the library: " + object.getClass());
            return 0;
        }
        int fields = 0;
        for (Field field : object.getClass().getDeclaredFields()) {
            if (!Modifier.isStatic(field.getModifiers())) {
                fields++;
                if (!field.getType().isPrimitive()) {
                    field.setAccessible(true);
                    reach(field.get(object), seen, open);
                }
            }
        }
        return fields;
    }

    private static void reach(Object object, Set<Object> seen, ArrayDeque<Object> open) {
        if (object != null && seen.add(object)) {
            open.add(object);
        }
    }
}
