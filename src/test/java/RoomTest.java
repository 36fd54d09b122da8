import java.lang.reflect.Array;
import java.lang.reflect.Field;
import java.lang.reflect.Modifier;
import java.util.ArrayDeque;
import java.util.IdentityHashMap;

/**
 * All calls of one run live in one room, of some 600,000 objects and arrays and 7.3 million fields and
 * elements: an object holds a small part of it, and as much after its 512 dearest calls as when it was made.
 */
public final class RoomTest {
    private static final Check check = new Check();

    public static void main(String[] args) throws Exception {
        int[] made = held(new WhyNots());
        check.holds("few objects: " + made[0], made[0] <= 40);
        check.holds("few fields and elements: " + made[1], made[1] <= 30000);
        WhyNots x = dearest();
        int[] used = held(x);
        check.due("objects after 512 calls", used[0], made[0]);
        check.due("fields and elements after 512 calls", used[1], made[1]);
        check.end();
    }

    /** A full object, whose best plan and sets are found anew at every third call. */
    private static WhyNots dearest() {
        WhyNots x = Build.full();
        for (int call = 0; call < 462; call++) {
            switch (call % 3) {
                case 0: x.mode(call % 12, call % 2 + 1); break;
                case 1: x.count(5); break;
                default: x.price(call % 12); break;
            }
        }
        return x;
    }

    /** How many objects and arrays an object holds, itself with them, and how many fields and elements these have. */
    private static int[] held(Object whole) throws IllegalAccessException {
        IdentityHashMap<Object, Boolean> seen = new IdentityHashMap<>();
        ArrayDeque<Object> next = new ArrayDeque<>();
        next.add(whole);
        seen.put(whole, true);
        int fields = 0;
        while (!next.isEmpty()) {
            Object one = next.remove();
            if (one.getClass().isArray()) {
                check.holds("an array of numbers", one.getClass().getComponentType().isPrimitive());
                fields += Array.getLength(one);
                continue;
            }
            for (Field field : one.getClass().getDeclaredFields()) {
                if (Modifier.isStatic(field.getModifiers())) {
                    continue;
                }
                fields++;
                field.setAccessible(true);
                if (!field.getType().isPrimitive() && seen.put(field.get(one), true) == null) {
                    next.add(field.get(one));
                }
            }
        }
        return new int[] {seen.size(), fields};
    }
}
