import java.lang.reflect.InvocationTargetException;
import java.lang.reflect.Method;
import java.lang.reflect.Modifier;
import java.util.ArrayList;
import java.util.Arrays;
import java.util.HashMap;
import java.util.List;
import java.util.Map;
import java.util.function.Supplier;

/**
 * Calls at the edge of what the document tells. A house is made twice, and only one of the two
 * hears the call: what it changed is what the other one shows otherwise.
 */
final class Edge {
    static final int LEAST = Integer.MIN_VALUE;
    static final int MOST = Integer.MAX_VALUE;
    private static final int BAD_APART = -10;
    /** A place in STATUS that no reason has. */
    private static final int NO_REASON = -1;
    private static final Map<String, Method> CALLS = calls();

    final Check check;

    Edge(String about) {
        check = new Check(about);
    }

    private static Map<String, Method> calls() {
        Map<String, Method> found = new HashMap<>();
        for (Method m : GrindMill.class.getDeclaredMethods()) {
            if (Modifier.isPublic(m.getModifiers())) {
                found.put(m.getName(), m);
            }
        }
        return found;
    }

    /** A call is told by its name, so that what is printed of a wrong one is what was called. */
    static long call(GrindMill x, String name, int... numbers) {
        Object[] given = Arrays.stream(numbers).boxed().toArray();
        try {
            return ((Number) CALLS.get(name).invoke(x, given)).longValue();
        } catch (IllegalAccessException | InvocationTargetException e) {
            throw new IllegalStateException(told(name, numbers), e);
        }
    }

    private static String told(String name, int... numbers) {
        return name + Arrays.toString(numbers).replace('[', '(').replace(']', ')');
    }

    /** Taken: answered as due, counted by no reason. The house is given back, to see what it changed. */
    GrindMill taken(Supplier<GrindMill> house, long answer, String name, int... numbers) {
        GrindMill x = house.get();
        int[] before = status(x);
        check.due(told(name, numbers), call(x, name, numbers), answer);
        countedAs(NO_REASON, before, x, told(name, numbers));
        return x;
    }

    /** Only asked: answered as due, and as due when asked again, counted by no reason, and all stays. */
    void asked(Supplier<GrindMill> house, long answer, String name, int... numbers) {
        leavesAll(house, NO_REASON, answer, name, numbers);
        GrindMill x = house.get();
        call(x, name, numbers);
        check.due(told(name, numbers) + " again", call(x, name, numbers), answer);
    }

    void bad(Supplier<GrindMill> house, String name, int... numbers) {
        leavesAll(house, 0, GrindMill.BAD, name, numbers);
    }

    void badApart(Supplier<GrindMill> house, String name, int... numbers) {
        leavesAll(house, 0, BAD_APART, name, numbers);
    }

    void no(Supplier<GrindMill> house, String name, int... numbers) {
        leavesAll(house, 1, GrindMill.NO, name, numbers);
    }

    void full(Supplier<GrindMill> house, String name, int... numbers) {
        leavesAll(house, 2, GrindMill.FULL, name, numbers);
    }

    /** In an empty house, a busy one and a crammed one: the number at this place one too small, one too large, far off. */
    void badOutside(int place, int least, int most, String name, int... numbers) {
        outside(place, least, most, GrindMill.BAD, name, numbers);
    }

    void badApartOutside(int place, int least, int most, String name, int... numbers) {
        outside(place, least, most, BAD_APART, name, numbers);
    }

    private void outside(int place, int least, int most, long answer, String name, int... numbers) {
        for (Supplier<GrindMill> house : Houses.ALL) {
            for (int wrong : new int[] {least - 1, most + 1, LEAST, MOST}) {
                int[] given = numbers.clone();
                given[place] = wrong;
                leavesAll(house, 0, answer, name, given);
            }
        }
    }

    /** Refused, or only asked: the answer, the one reason that counts it, and nothing else. */
    void leavesAll(Supplier<GrindMill> house, int reason, long answer, String name, int... numbers) {
        String call = told(name, numbers);
        GrindMill x = house.get();
        GrindMill twin = house.get();
        int[] before = status(x);
        check.due(call, call(x, name, numbers), answer);
        countedAs(reason, before, x, call);
        status(twin);
        status(twin);
        check.holds(call + " changes nothing else", all(x).equals(all(twin)));
    }

    private void countedAs(int reason, int[] before, GrindMill x, String call) {
        int[] behind = status(x);
        for (int what = 0; what < 3; what++) {
            check.due(call + " counted in status(" + what + ")", behind[what] - before[what], what == reason ? 1 : 0);
        }
    }

    private static int[] status(GrindMill x) {
        return new int[] {x.status(0), x.status(1), x.status(2)};
    }

    /** All that can be seen but STATUS: what is now, what may be undone, THE TEXT as it is read, the IMAGES. */
    private static List<Long> all(GrindMill x) {
        List<Long> seen = new ArrayList<>();
        seeNow(x, seen);
        seePast(x, seen);
        seen.add((long) x.read());
        seeNow(x, seen);
        for (int i = 0; i < 2; i++) {
            seen.add((long) x.from(i));
            seeNow(x, seen);
            seePast(x, seen);
        }
        return seen;
    }

    private static void seeNow(GrindMill x, List<Long> seen) {
        seen.add(x.digest());
        seen.add((long) x.grinds());
        seen.add(x.part(0));
        seen.add(x.part(1));
        for (int what = 0; what <= 9; what++) {
            seen.add((long) x.count(what));
        }
    }

    private static void seePast(GrindMill x, List<Long> seen) {
        for (int left = x.count(7); left > 0; left--) {
            seen.add((long) x.undo());
            seen.add(x.digest());
        }
    }
}
