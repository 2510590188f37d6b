import java.lang.reflect.InvocationTargetException;
import java.lang.reflect.Method;
import java.lang.reflect.Modifier;
import java.util.Arrays;
import java.util.NoSuchElementException;
import java.util.Set;

/** Every call with numbers far too small and far too large, in several states: none throws but where the document says so. */
public final class ExtremesTest {
    private static final int MIN = Integer.MIN_VALUE;
    private static final int MAX = Integer.MAX_VALUE;
    private static final int[] ROWS = {0, 1, 2, 3, 4, -1, MIN, MAX};
    private static final int[] NUMBERS = {MIN, MIN + 1, -600, -32, -2, -1, 0, 1, 2, 7, 8, 31, 32, 64, 199, 200, 201, 567, 568, 599, 600, 601,
        940, 1000, MAX - 599, MAX - 31, MAX - 1, MAX};
    private static final Set<String> THROW = Set.of("word", "dense", "load", "centre");
    private static final Check CHECK = new Check();
    private static int calls;

    public static void main(String[] args) throws Exception {
        String[] rooms = {"", "row a;", "leaf 4;row a " + Check.manyBits(600) + ";row b;row c i;",
            "leaf 32;row a " + Check.manyBits(65) + ";row b oo;row c;row d iiii;letters " + "abcdefg ".repeat(28) + "abcd;"};
        for (String room : rooms) {
            for (Method method : BitRopes.class.getDeclaredMethods()) {
                if (Modifier.isPublic(method.getModifiers())) {
                    all(room, method);
                }
            }
        }
        CHECK.due("calls were made", calls > 10000, true);
        CHECK.end();
    }

    private static void all(String room, Method method) throws Exception {
        int n = method.getParameterCount();
        int[] at = new int[n];
        BitRopes x = Check.with(room);
        boolean more = true;
        for (int k = 0; more; k++) {
            if (k % 200 == 0) {
                x = Check.with(room);
                x.image(0);
            }
            call(x, method, n, at);
            more = next(at, method);
        }
    }

    /** The first of several numbers is a ROW most often; of five only a few are tried. */
    private static int[] numbers(Method method, int k) {
        int n = method.getParameterCount();
        return n == 5 ? Arrays.copyOf(NUMBERS, 3) : n > 1 && k == 0 ? ROWS : NUMBERS;
    }

    private static boolean next(int[] at, Method method) {
        for (int k = 0; k < at.length; k++) {
            at[k]++;
            if (at[k] < numbers(method, k).length) {
                return true;
            }
            at[k] = 0;
        }
        return false;
    }

    private static void call(BitRopes x, Method method, int n, int[] at) throws Exception {
        Object[] args = new Object[n];
        for (int k = 0; k < n; k++) {
            args[k] = numbers(method, k)[at[k]];
        }
        if (method.getName().equals("seek") || method.getName().equals("paste")) {
            x.end(0);
            x.feed(0x01000100, 0x00010000, 0, 0, 0);
        }
        calls++;
        String ahead = x.total(0) + "/" + x.total(2) + "/" + x.total(3) + "/" + x.letters() + "/" + x.fault();
        try {
            method.invoke(x, args);
        } catch (InvocationTargetException e) {
            boolean due = THROW.contains(method.getName()) && e.getCause().getClass() == NoSuchElementException.class;
            CHECK.due(method.getName() + Arrays.toString(args) + " threw " + e.getCause(), due, true);
            String behind = x.total(0) + "/" + x.total(2) + "/" + x.total(3) + "/" + x.letters() + "/" + x.fault();
            CHECK.same("what is so behind a call that throws", behind, ahead);
        }
    }
}
