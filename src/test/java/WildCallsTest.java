import java.lang.reflect.Method;
import java.lang.reflect.Modifier;
import java.util.ArrayList;
import java.util.Arrays;
import java.util.Comparator;
import java.util.List;

/**
 * Every call with every choice of numbers out of a few, from the least int to the greatest, in several states: none throws,
 * and each answers as the plain model does. A chute is used for fewer than 512 calls, then the next one is made.
 */
public final class WildCallsTest {
    private static final int CALLS = 400;
    private static final int LEAST = Integer.MIN_VALUE, MOST = Integer.MAX_VALUE;
    private static final int[] MANY = {LEAST, -129, -2, -1, 0, 1, 2, 3, 4, 5, 6, 7, 8, 9, 10, 11, 12, 13, 20, 21, 24, 25, 39, 40, 41, 54, 55,
        60, 61, 99, 100, 255, 256, 998, 999, 1000, 32768, 999999, 1000000, MOST - 1, MOST};
    private static final int[] SOME = {LEAST, -1, 0, 1, 2, 3, 4, 7, 8, 12, 13, 40, 41, 60, 61, 999999, 1000000, MOST};
    private static final int[] FEW = {LEAST, -1, 0, 1, 2, 7, 8, 12, 13, MOST};
    private final Check check = new Check();
    private LetterChute x;
    private PlainChute y;
    private int calls;

    public static void main(String[] args) throws Exception {
        List<Method> face = new ArrayList<>();
        for (Method m : LetterChute.class.getDeclaredMethods()) {
            if (Modifier.isPublic(m.getModifiers())) {
                face.add(m);
            }
        }
        face.sort(Comparator.comparing(Method::getName));
        WildCallsTest test = new WildCallsTest();
        for (int state = 0; state < 5; state++) {
            for (Method m : face) {
                test.all(state, m);
            }
        }
        test.check.end();
    }

    private void all(int state, Method m) throws Exception {
        int many = m.getParameterCount();
        int[] from = many <= 2 ? MANY : many == 3 ? SOME : FEW;
        int[] picked = new int[many];
        boolean more = true;
        makeReady(state);
        while (more) {
            Object[] numbers = Arrays.stream(picked).mapToObj(i -> from[i]).toArray();
            if (calls >= CALLS) {
                makeReady(state);
            }
            both(m.getName(), numbers);
            more = next(picked, from.length);
        }
    }

    private static boolean next(int[] picked, int many) {
        for (int i = 0; i < picked.length; i++) {
            picked[i]++;
            if (picked[i] < many) {
                return true;
            }
            picked[i] = 0;
        }
        return false;
    }

    private void both(String name, Object... numbers) throws Exception {
        calls++;
        Class<?>[] types = new Class<?>[numbers.length];
        Arrays.fill(types, int.class);
        long got = ((Number) LetterChute.class.getDeclaredMethod(name, types).invoke(x, numbers)).longValue();
        long want = ((Number) PlainChute.class.getDeclaredMethod(name, types).invoke(y, numbers)).longValue();
        check.due(name + Arrays.toString(numbers), got, want);
    }

    private void tell(String text) throws Exception {
        for (char c : text.toCharArray()) {
            both("feed", (int) c);
        }
        both("house");
    }

    private void rows() throws Exception {
        int[] told = {1, 2, 2, 11, 20, 30, 30, 30, 30, 30, 30, 30};
        for (int row = 0; row < 3; row++) {
            both("row", row, row, 12 + row);
            for (int i = 0; i < 12; i++) {
                both("set", row, i, told[i]);
            }
        }
        both("row", 7, 0, 40);
    }

    private void makeReady(int state) throws Exception {
        x = new LetterChute();
        y = new PlainChute();
        calls = 0;
        if (state == 1) {
            rows();
        } else if (state == 2) {
            tell("h3,2;c0,1,0;");
        } else if (state == 3) {
            tell("h8,9;c7,4,0;l7,4,1;p5,9,0;r7,2,2;");
            both("ticks", 4);
            both("wide", 5);
            both("ticks", 3);
            both("poke", 2);
            both("image", 1);
            rows();
        } else if (state == 4) {
            tell("h8,20;s7,9,0;c7,9,0;r2,3,20;");
            both("ticks", 1);
            both("wide", 2);
            for (int i = 0; i < 41; i++) {
                both("ticks", 24);
            }
            both("ticks", 14);
            for (int i = 0; i < 100; i++) {
                both("feed", i);
            }
            rows();
        }
    }
}
