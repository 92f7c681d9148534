import java.lang.reflect.InvocationTargetException;
import java.lang.reflect.Method;
import java.util.ArrayList;
import java.util.Comparator;
import java.util.List;
import java.util.Random;

/** No call throws, whatever its arguments and whatever was called before, far behind the 512th call too. */
public final class AnyArgumentsTest {
    private static final int[] EDGES = {
        Integer.MIN_VALUE, Integer.MIN_VALUE + 1, -1000, -101, -100, -11, -10, -2, -1, 0, 1, 2, 3, 4, 5, 6, 7, 8, 9, 10, 11, 12, 13,
        20, 21, 33, 46, 47, 48, 49, 50, 58, 59, 60, 61, 65, 66, 67, 68, 70, 71, 89, 90, 91, 99, 100, 101, 126, 127, 360, 400, 401,
        500, 504, 505, 9999, 10000, 65536, 65537, 99999, 100000, Integer.MAX_VALUE - 1, Integer.MAX_VALUE
    };

    public static void main(String[] args) throws IllegalAccessException {
        Check check = new Check();
        List<Method> calls = calls();
        for (int seed = 0; seed < 300 && check.isClean(); seed++) {
            Random random = new Random(seed);
            BlowOwed x = new BlowOwed();
            for (int i = 0; i < 2000 && check.isClean(); i++) {
                one(check, x, calls.get(random.nextInt(calls.size())), random);
            }
        }
        manyDays(check);
        check.end();
    }

    private static List<Method> calls() {
        List<Method> calls = new ArrayList<>();
        for (Method method : BlowOwed.class.getDeclaredMethods()) {
            if (java.lang.reflect.Modifier.isPublic(method.getModifiers())) {
                calls.add(method);
            }
        }
        calls.sort(Comparator.comparing(Method::getName));
        return calls;
    }

    private static void one(Check check, BlowOwed x, Method call, Random random) throws IllegalAccessException {
        Object[] arguments = new Object[call.getParameterCount()];
        for (int i = 0; i < arguments.length; i++) {
            arguments[i] = random.nextInt(3) == 0 ? EDGES[random.nextInt(EDGES.length)] : random.nextInt(8);
        }
        try {
            Object answer = call.invoke(x, arguments);
            check.isTrue(call.getName(), answer != null);
        } catch (InvocationTargetException thrown) {
            check.isTrue(call.getName() + " threw " + thrown.getCause(), false);
        }
    }

    /** More days than any run of 512 calls can tell, until the day itself wraps round. */
    private static void manyDays(Check check) {
        BlowOwed x = Courts.shortYear();
        for (int i = 0; i < 400000; i++) {
            if (i % 1000 == 0) {
                Courts.done(x, "AC01A1");
                x.when(0, 2);
                x.round(0, 1);
                x.year(i % 10000, 99, 2);
            }
            Courts.done(x, ";".repeat(60));
        }
        check.isTrue("the days have passed", x.told(4) == 10);
    }
}
