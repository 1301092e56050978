import java.lang.reflect.Array;
import java.lang.reflect.Field;
import java.lang.reflect.Modifier;
import java.util.Collections;
import java.util.IdentityHashMap;
import java.util.Set;

/**
 * What one object takes of the room that all calls of a run share: what is made with it and with its two images,
 * the first time they are kept; behind any other calls it is no more. (That calls make nothing that they drop again
 * is seen by RulesTest: there is no other new in the source.)
 */
public final class RoomTest {
    private static final int MOST_OBJECTS = 64, MOST_ELEMENTS = 2000;

    private int objects = 0;
    private int elements = 0;
    private final Set<Object> seen = Collections.newSetFromMap(new IdentityHashMap<>());

    public static void main(String[] args) throws IllegalAccessException {
        WishMeter x = new WishMeter();
        room(x);
        x.image(0);
        x.image(1);
        RoomTest made = room(x);
        full(x);
        for (int k = 0; k < 9; k++) everyCall(x, k);
        RoomTest behind = room(x);
        Due.due("objects behind all calls", behind.objects, made.objects);
        Due.due("elements behind all calls", behind.elements, made.elements);
        Due.end();
    }

    private static RoomTest room(WishMeter x) throws IllegalAccessException {
        RoomTest room = new RoomTest();
        room.add(x, 0);
        Due.due("objects of one: " + room.objects, room.objects > MOST_OBJECTS ? 1 : 0, 0);
        Due.due("fields and elements of one: " + room.elements, room.elements > MOST_ELEMENTS ? 1 : 0, 0);
        return room;
    }

    private void add(Object one, int depth) throws IllegalAccessException {
        if (one == null || depth > 20 || !seen.add(one)) return;
        objects++;
        if (one.getClass().isArray()) {
            addArray(one, depth);
            return;
        }
        for (Field f : one.getClass().getDeclaredFields()) {
            if (Modifier.isStatic(f.getModifiers())) continue;
            elements++;
            f.setAccessible(true);
            if (!f.getType().isPrimitive()) add(f.get(one), depth + 1);
        }
    }

    private void addArray(Object array, int depth) throws IllegalAccessException {
        elements += Array.getLength(array);
        if (array.getClass().getComponentType().isPrimitive()) return;
        for (int k = 0; k < Array.getLength(array); k++) add(Array.get(array, k), depth + 1);
    }

    private static void full(WishMeter x) {
        for (Calls.Call c : States.full()) Calls.ask(x, c.name(), c.values());
    }

    /** Each call once, in some ways, on five wells. */
    private static void everyCall(WishMeter x, int k) {
        int i = k % 5;
        int h = k % 8;
        x.turn(i, k & 255);
        x.want(i, 1 + k % 20);
        x.press(k % 61);
        x.day(1);
        x.undo();
        x.of(i, k % 5);
        x.hour(i, h, k % 3);
        x.daily(i, 1);
        x.turns(-1);
        x.fair(i);
        x.least();
        x.shut(i);
        x.left(h, k % 61);
        x.drew(k % 3);
        x.note(i, 1, h, 9, 1, 1);
        x.is(i);
        x.look(i);
        x.swaps(-1);
        x.inspector(i, h);
        x.noons(i, h, k % 11);
        x.years(k, 3);
        x.part(0);
        x.image(k & 1);
        x.from(k & 1);
        x.forget(k & 1);
        x.read();
        x.clear();
        x.type(k & 127);
        x.status(3);
        x.count(3);
        x.digest();
        x.board(30);
        for (int n = 0; n < 5; n++) x.well((n + k) % 6, 5 + n, 255 - k % 9);
    }
}
