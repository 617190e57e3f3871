import java.lang.reflect.InvocationTargetException;
import java.lang.reflect.Method;
import java.lang.reflect.Modifier;

/** Every call with every mix of edge numbers, in states that differ most: none may throw. */
public final class NeverThrowsTest {
    private static final Check CHECK = new Check("NeverThrowsTest");
    private static final int[] EDGES = {Integer.MIN_VALUE, -11, -3, -2, -1, 0, 1, 5, 6, 9, 12, 31, 60, 150, 200, 300,
        999999, Integer.MAX_VALUE};

    public static void main(String[] args) throws IllegalAccessException {
        for (Method m : GrindMill.class.getDeclaredMethods()) {
            if (Modifier.isPublic(m.getModifiers())) {
                for (int state = 0; state < 4; state++) {
                    callAll(m, state);
                }
            }
        }
        CHECK.end();
    }

    private static GrindMill inState(int state) {
        GrindMill x = state == 1 ? MillTest.busy() : new GrindMill();
        if (state >= 2) {
            x.mill(state == 2 ? 0 : 200);
            for (int g = 0; g < 6; g++) {
                x.goods(state == 2 ? 5 : 4, 9, 40);
                x.grind(g);
                x.hour(60);
                x.guess(g, g);
            }
            for (int g = 0; g < 6; g++) {
                x.note(g, 99, 9, 20);
                x.image(g % 2);
                x.hour(60);
            }
            for (int i = 0; i < 150; i++) {
                x.type(state == 2 ? '9' : 'z');
            }
        }
        return x;
    }

    private static void callAll(Method m, int state) throws IllegalAccessException {
        int mixes = (int) Math.pow(EDGES.length, m.getParameterCount());
        // Mixes of four numbers are too many for an object each, so some follow one another.
        int each = m.getParameterCount() > 2 ? 300 : 1;
        GrindMill x = inState(state);
        for (int mix = 0; mix < mixes; mix++) {
            if (mix % each == 0) {
                x = inState(state);
            }
            Object[] numbers = new Object[m.getParameterCount()];
            for (int i = 0, left = mix; i < numbers.length; i++, left /= EDGES.length) {
                numbers[i] = EDGES[left % EDGES.length];
            }
            try {
                m.invoke(x, numbers);
                CHECK.holds("", true);
            } catch (InvocationTargetException e) {
                CHECK.holds(m.getName() + java.util.Arrays.toString(numbers) + " in state " + state + " threw " + e.getCause(), false);
            }
        }
    }
}
