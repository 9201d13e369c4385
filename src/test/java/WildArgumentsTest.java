import java.lang.reflect.InvocationTargetException;
import java.lang.reflect.Method;
import java.lang.reflect.Modifier;
import java.util.ArrayList;
import java.util.Comparator;
import java.util.List;

/** No call may throw: each method with each of many numbers in each place, in yards that are empty, used and full. */
public final class WildArgumentsTest extends Checks {
    private static final int CALLS = 512;
    private static final int[] NUMBERS = {
        TOO_SMALL, TOO_SMALL + 1, -1000, -100, -13, -3, -2, -1, 0, 1, 2, 3, 4, 5, 6, 7, 8, 9, 10, 15, 16, 20, 24, 30, 31, 49, 50, 59, 60, 61, 98, 99, 100,
        120, 127, 255, 256, 309, 311, 511, 512, 599, 600, 998, 999, 1000, 1201, 1299, 1300, 1515, 1600, 1999, 2000, 4000, 9999, TOO_GREAT - 1, TOO_GREAT,
    };
    private static NineKeysRound yard;
    private static int used;

    private WildArgumentsTest() {
    }

    public static void main(String[] args) throws IllegalAccessException {
        List<Method> calls = new ArrayList<>();
        for (Method m : NineKeysRound.class.getDeclaredMethods()) if (Modifier.isPublic(m.getModifiers())) calls.add(m);
        calls.sort(Comparator.comparing(Method::getName));
        for (int state = 0; state < 4; state++) {
            for (Method call : calls) {
                begin(state);
                wild(call, state);
            }
        }
        end("no call throws");
    }

    private static void begin(int state) {
        yard = state == 0 ? new NineKeysRound() : state == 1 ? used() : state == 2 ? full() : still();
        used = 200;
    }

    private static NineKeysRound used() {
        NineKeysRound x = three();
        fill(x, 1, 1, 0, 2, 1, 6, 2);
        x.row(2, 3, 60);
        x.keep(3, x.body(7));
        law(x, "0?1;u*m/p%n");
        x.feed('1');
        x.walk(1);
        x.image();
        x.mend(0, 6, 9);
        x.mend(0, 7, 9);
        x.undo();
        return x;
    }

    private static NineKeysRound full() {
        NineKeysRound x = yard(1515, 0, 15, 1500, 1515, 0, 807, 708, 0);
        x.mend(0, 6, 9);
        x.row(0, 0, 60);
        for (int i = 0; i < 20; i++) x.put(0, i, i % 9);
        x.row(1, 1, 59);
        x.row(2, 0, 0);
        for (int i = 0; i < 50; i++) x.body(i % 8);
        x.keep(3, 49);
        waitTill(x, 9999);
        return x;
    }

    /** All posts in one cell, and no minute goes by. */
    private static NineKeysRound still() {
        NineKeysRound x = paced(1, 0, 0, 0, 0, 0, 0, 0);
        fill(x, 0, 0, 0, 1, 2, 3, 4, 5, 5, 4, 3, 2, 1, 0, 0, 1, 2, 3, 4, 5, 5, 5, 5);
        x.row(1, 1, 60);
        x.row(2, 0, 20);
        return x;
    }

    /** Few places: every number in every place; more: numbers far apart, shifted from place to place. */
    private static void wild(Method call, int state) throws IllegalAccessException {
        int places = call.getParameterCount();
        long all = 1;
        for (int i = 0; i < Math.min(places, 2); i++) all *= NUMBERS.length;
        for (long k = 0; k < all * (places > 2 ? 3 : 1); k++) {
            Object[] numbers = new Object[places];
            long rest = k;
            for (int i = 0; i < places; i++) {
                int number = NUMBERS[(int) (rest % NUMBERS.length)];
                numbers[i] = call.getParameterTypes()[i] == long.class ? (Object) (number * 4294967299L) : (Object) number;
                rest = i == 0 ? k / NUMBERS.length : rest * 31 + k * 7 + i;
            }
            if (places > 2 && k % 2 == 0) numbers[0] = (int) (k % 6);
            once(call, numbers, state);
        }
    }

    private static void once(Method call, Object[] numbers, int state) throws IllegalAccessException {
        if (used++ >= CALLS) begin(state);
        try {
            call.invoke(yard, numbers);
        } catch (InvocationTargetException e) {
            promise = call.getName() + java.util.Arrays.toString(numbers);
            fail("threw " + e.getCause());
        }
    }
}
