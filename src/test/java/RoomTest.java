import java.lang.reflect.Array;
import java.lang.reflect.Field;
import java.lang.reflect.Modifier;
import java.util.ArrayDeque;
import java.util.Collections;
import java.util.Deque;
import java.util.IdentityHashMap;
import java.util.Set;

/** How much room an object takes: 600,000 objects and 7.3 million fields and elements must do for a run. */
final class RoomTest {
    private static final int MOST_OBJECTS = 150;
    private static final int MOST_ELEMENTS = 30_000;
    private static final String FIVE = "person 0 30 1 5 99;person 0 60 2 7 99;person 0 20 0 3 99;"
        + "person 0 9 9 9 99;person 0 9 9 9 99;";

    private final Set<Object> seen = Collections.newSetFromMap(new IdentityHashMap<>());
    private final Deque<Object> next = new ArrayDeque<>();
    private long elements;

    public static void main(String[] args) throws IllegalAccessException {
        BowingRow x = new BowingRow();
        RoomTest made = new RoomTest(x);
        dearCalls(x);
        RoomTest used = new RoomTest(x);
        Check.same("objects more than " + MOST_OBJECTS, 0, used.seen.size() > MOST_OBJECTS ? used.seen.size() : 0);
        Check.same("elements more than " + MOST_ELEMENTS, 0, used.elements > MOST_ELEMENTS ? used.elements : 0);
        Check.same("objects that later calls made and kept", 0, used.seen.size() - made.seen.size());
        Check.end();
    }

    private RoomTest(Object root) throws IllegalAccessException {
        add(root);
        while (!next.isEmpty()) {
            Object one = next.pop();
            if (one.getClass().isArray()) {
                lookAtArray(one);
            } else {
                lookAtFields(one);
            }
        }
    }

    private void add(Object one) {
        // an enum's constants are the class's, and made once
        if (one != null && !(one instanceof Enum) && seen.add(one)) {
            next.push(one);
        }
    }

    private void lookAtArray(Object array) {
        int length = Array.getLength(array);
        elements += length;
        for (int i = 0; i < length && !array.getClass().getComponentType().isPrimitive(); i++) {
            add(Array.get(array, i));
        }
    }

    private void lookAtFields(Object one) throws IllegalAccessException {
        for (Field field : one.getClass().getDeclaredFields()) {
            if (!Modifier.isStatic(field.getModifiers())) {
                elements++;
                if (!field.getType().isPrimitive()) {
                    field.setAccessible(true);
                    add(field.get(one));
                }
            }
        }
    }

    private static void dearCalls(BowingRow x) {
        for (int i = 0; i < 5; i++) {
            Check.law(x, "must older>age+1;worth (heavier-load)*9;times 9;bow 9;due 5;lapse 9;bell 99;shut 999;");
            Check.row(x, FIVE);
            for (int what = 0; what < 2; what++) {
                x.rest(what);
                x.polite(what);
                x.struck(what);
                x.best(what, 1);
            }
            x.hopeless();
            x.image();
            x.tell(1);
            x.restore();
            x.owed(0, 1);
            x.until(0, 9);
            x.rest(0);
        }
    }
}
