import java.lang.reflect.Constructor;
import java.lang.reflect.Field;
import java.lang.reflect.Method;
import java.lang.reflect.Modifier;
import java.util.Set;
import java.util.TreeSet;

/** The public face is the document's, and nothing else is to be seen from outside. */
public final class FaceTest {
    private static final String[] METHODS = {
        "int board 1", "int well 3", "int type 1", "int clear 0", "int read 0", "int day 1", "int turn 2",
        "int want 2", "int press 1", "int undo 0", "int of 2", "int hour 3", "int daily 2", "int turns 1",
        "int fair 1", "int least 0", "int shut 1", "int left 2", "int drew 1", "int note 6", "int forget 1",
        "int is 1", "int look 1", "int swaps 1", "int inspector 2", "int noons 3", "int years 2", "long part 1",
        "int image 1", "int from 1", "int status 1", "int count 1", "long digest 0"};

    public static void main(String[] args) {
        Due.due("NONE", WishMeter.NONE, -1);
        Due.due("BAD", WishMeter.BAD, -2);
        Due.due("NO", WishMeter.NO, -3);
        Due.due("FULL", WishMeter.FULL, -4);
        Due.due("final", Modifier.isFinal(WishMeter.class.getModifiers()) ? 1 : 0, 1);
        Set<String> seen = new TreeSet<>();
        for (Method m : WishMeter.class.getDeclaredMethods()) {
            if (Modifier.isPrivate(m.getModifiers())) continue;
            seen.add(m.getReturnType() + " " + m.getName() + " " + m.getParameterCount());
        }
        Due.due("the methods " + seen, seen.equals(new TreeSet<>(Set.of(METHODS))) ? 1 : 0, 1);
        int fields = 0;
        for (Field f : WishMeter.class.getDeclaredFields()) {
            if (!Modifier.isPrivate(f.getModifiers())) fields++;
        }
        Due.due("fields to be seen", fields, 4);
        Constructor<?>[] made = WishMeter.class.getConstructors();
        Due.due("constructors", made.length, 1);
        Due.due("its parameters", made[0].getParameterCount(), 0);
        Due.end();
    }
}
