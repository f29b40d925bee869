import java.lang.reflect.InvocationTargetException;
import java.lang.reflect.Method;
import java.lang.reflect.Modifier;
import java.util.ArrayList;
import java.util.Arrays;
import java.util.Comparator;
import java.util.List;

/** Every call with every kind of number, in several states: none throws, and none that is refused changes anything. */
public final class WildTest {
    private static final int[] NUMBERS = {Integer.MIN_VALUE, Integer.MIN_VALUE + 1, -1000000001, -32, -8, -7, -6, -2, -1,
        0, 1, 2, 3, 4, 5, 6, 7, 8, 9, 10, 15, 16, 17, 18, 25, 26, 31, 32, 33, 63, 64, 79, 80, 99, 100, 126, 127, 200, 201,
        255, 256, 1000, 1001, 1000000000, Integer.MAX_VALUE - 1, Integer.MAX_VALUE};
    /** Calls that go through many DAYS or PRICES are asked with fewer numbers. */
    private static final int[] FEWER = {Integer.MIN_VALUE, -1, 0, 1, 2, 5, 6, 10, 17, 18, 26, 79, 80, Integer.MAX_VALUE};

    private static long calls;
    private static long refused;
    private static int wrong;

    public static void main(String[] args) throws IllegalAccessException {
        for (int state = 0; state < 6; state++) {
            for (Method method : face()) {
                callAll(state, method);
            }
        }
        System.out.println("WildTest: " + calls + " calls, " + refused + " refused, " + wrong + " wrong");
        if (wrong != 0 || refused == 0) {
            System.exit(1);
        }
    }

    private static List<Method> face() {
        List<Method> face = new ArrayList<>();
        for (Method method : FallClocks.class.getDeclaredMethods()) {
            if (Modifier.isPublic(method.getModifiers())) {
                face.add(method);
            }
        }
        face.sort(Comparator.comparing(Method::getName));
        return face;
    }

    private static FallClocks make(int state) {
        FallClocks x = new FallClocks();
        if (state == 1 || state >= 3) {
            for (int l = 0; l < (state == 5 ? 8 : 6); l++) {
                x.lot(l % 5, l % 3, l * 7);
            }
        }
        if (state >= 2) {
            for (int b = 0; b < (state == 5 ? 6 : 3); b++) {
                x.buyer();
                if (state >= 3) {
                    say(x, state == 5 ? "9a=999|1a=40|1b=30|1a1c=70|1d=20|1e=1" : "1a=50|2a1b=90");
                    x.wish(b);
                }
            }
        }
        if (state >= 4) {
            say(x, state == 5 ? "1a=5|1a=5|1a=5|1a=5|1a=5|1a=5|1a=5|1a=5|1a=5|1a=5" : "1a=");
            x.leave(0, 1);
            for (int i = 0; i < (state == 5 ? 8 : 2); i++) {
                x.lesson(20 + 20 * i);
            }
        }
        return x;
    }

    private static void say(FallClocks x, String text) {
        for (char sign : text.toCharArray()) {
            x.say(sign);
        }
    }

    private static void callAll(int state, Method method) throws IllegalAccessException {
        int count = method.getParameterCount();
        int[] numbers = count == 3 || method.getName().equals("orders") ? FEWER : NUMBERS;
        int tries = 1;
        for (int i = 0; i < count; i++) {
            tries *= numbers.length;
        }
        FallClocks x = make(state);
        String before = picture(x);
        for (int t = 0; t < tries; t++) {
            Object[] arguments = new Object[count];
            for (int i = 0, rest = t; i < count; i++, rest /= numbers.length) {
                arguments[i] = numbers[rest % numbers.length];
            }
            calls++;
            Integer answer = answer(x, method, arguments);
            if (answer != null && isRefusal(answer)) {
                refused++;
            } else {
                // a call that was taken may change the object: the next one has a new one
                x = make(state);
            }
            if (answer != null && isRefusal(answer) && t % 16 == 0 && !picture(x).equals(before)) {
                complain(state, method, arguments, "was refused, but changed something");
                x = make(state);
            }
        }
        if (!picture(x).equals(before)) {
            complain(state, method, new Object[0], "was refused all along, but something changed");
        }
    }

    private static boolean isRefusal(int answer) {
        return answer < 0 && answer != FallClocks.NONE;
    }

    private static Integer answer(FallClocks x, Method method, Object[] arguments) throws IllegalAccessException {
        try {
            return (Integer) method.invoke(x, arguments);
        } catch (InvocationTargetException thrown) {
            complain(0, method, arguments, "threw " + thrown.getCause());
            return null;
        }
    }

    private static void complain(int state, Method method, Object[] arguments, String what) {
        wrong++;
        if (wrong < 20) {
            System.out.println("state " + state + ": " + method.getName() + Arrays.toString(arguments) + " " + what);
        }
    }

    /** All that can be seen of the state without changing it for good. */
    private static String picture(FallClocks x) {
        StringBuilder all = new StringBuilder();
        for (int what = 0; what < 16; what++) {
            all.append(x.told(what)).append(' ');
        }
        all.append(x.fault()).append(' ').append(x.missing()).append(' ');
        for (int l = 0; l < 8; l++) {
            int price = x.price(l, 0);
            x.price(l, price);
            all.append(x.order(l)).append(' ').append(x.sold(l, 1)).append(' ').append(price).append(' ');
        }
        for (int b = 0; b < 6; b++) {
            for (int what = 0; what < 3; what++) {
                int was = x.set(b, what, 0);
                x.set(b, what, was);
                all.append(was).append(' ');
            }
            int left = x.leave(b, 0);
            x.leave(b, left);
            all.append(left).append(' ').append(x.alternative(b, 0, 0)).append(' ').append(x.day(b, 0)).append(' ');
            for (int what = 10; what < 18; what++) {
                all.append(x.learn(b, 0, what)).append(' ');
            }
        }
        return all.toString();
    }
}
