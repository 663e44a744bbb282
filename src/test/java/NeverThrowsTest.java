import java.lang.reflect.InvocationTargetException;
import java.lang.reflect.Method;
import java.lang.reflect.Modifier;
import java.util.ArrayList;
import java.util.List;

/** No call throws, whatever it is given, on no object: a new one, a full one, one whose nights are over. */
public final class NeverThrowsTest {

    private static final int[] NUMBERS = {Integer.MIN_VALUE, Integer.MIN_VALUE + 1, -2000000000, -256, -37, -9, -2, -1, 0, 1,
        2, 3, 4, 5, 6, 7, 8, 9, 10, 20, 21, 35, 36, 60, 61, 95, 96, 99, 100, 255, 256, 999, 1000, 1 << 30,
        Integer.MAX_VALUE - 60, Integer.MAX_VALUE - 1, Integer.MAX_VALUE};

    private static long seed = 20261118;

    public static void main(String[] args) {
        boolean good = Due.test("no call throws on a new object", due -> tryAll(due, 0));
        good &= Due.test("no call throws on a full hill", due -> tryAll(due, 1));
        good &= Due.test("no call throws when the nights are over", due -> tryAll(due, 2));
        good &= Due.test("no call throws on wild letters", NeverThrowsTest::wildLetters);
        if (!good) {
            System.exit(1);
        }
    }

    private static void tryAll(Due due, int state) {
        List<Method> methods = new ArrayList<>();
        for (Method m : SeenFromBehind.class.getDeclaredMethods()) {
            if (Modifier.isPublic(m.getModifiers())) {
                methods.add(m);
            }
        }
        methods.sort((a, b) -> a.getName().compareTo(b.getName()));
        for (Method m : methods) {
            SeenFromBehind x = made(state);
            int tries = 400;
            for (int i = 0; i < tries; i++) {
                Object[] numbers = new Object[m.getParameterCount()];
                for (int j = 0; j < numbers.length; j++) {
                    numbers[j] = draw(3) == 0 ? NUMBERS[draw(NUMBERS.length)] : draw(7);
                }
                invoke(due, m, x, numbers);
            }
        }
    }

    private static SeenFromBehind made(int state) {
        SeenFromBehind x = new SeenFromBehind();
        if (state > 0) {
            for (int i = 0; i < 6; i++) {
                x.person(i, 9 - i, 7 + i % 2 + 6 * (i / 2), i % 4);
            }
            x.image();
            for (int i = 0; i < 12; i++) {
                x.row(i);
                x.turns(i % 6, i % 4);
            }
        }
        if (state > 1) {
            for (int i = 0; i < 17; i++) {
                x.nights(i < 16 ? 60 : 39);
            }
            x.image();
        }
        return x;
    }

    private static void wildLetters(Due due) {
        for (int run = 0; run < 3000; run++) {
            SeenFromBehind x = new SeenFromBehind();
            int many = draw(100);
            for (int i = 0; i < many; i++) {
                x.feed(draw(20) == 0 ? draw(256) : "pfcn;;0000111223456789".charAt(draw(22)));
            }
            int answer = x.hill();
            due.holds("hill() answered " + answer, answer >= 1 && answer <= 24 || answer <= -1000 && answer >= -1096
                || answer <= -2000 && answer >= -2092);
            due.is("count(5)", x.count(5), 0);
        }
    }

    private static void invoke(Due due, Method m, SeenFromBehind x, Object[] numbers) {
        try {
            m.invoke(x, numbers);
        } catch (InvocationTargetException e) {
            due.holds(m.getName() + java.util.Arrays.toString(numbers) + " threw " + e.getCause(), false);
        } catch (IllegalAccessException e) {
            due.holds(m.getName() + " can't be called", false);
        }
    }

    private static int draw(int n) {
        seed = seed * 6364136223846793005L + 1442695040888963407L;
        return (int) ((seed >>> 33) % n);
    }
}
