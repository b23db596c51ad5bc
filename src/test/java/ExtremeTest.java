import java.lang.reflect.Method;
import java.lang.reflect.Modifier;
import java.util.Arrays;
import java.util.Comparator;

/** Any arguments in any state: no call throws. */
public final class ExtremeTest {
    private static final int[] INTS = {0, 1, 2, 3, 4, 5, 6, 7, 8, 9, 10, 12, 31, 32, 100, 127, 999, 1000, -1, -2, -5, -32,
        Integer.MAX_VALUE, Integer.MIN_VALUE, Integer.MAX_VALUE - 1, Integer.MIN_VALUE + 1};
    private static final String TOWN = "fine 99 p<9;shun d=1;fewer 0;law 1";
    private static long seed = 3;

    private static int roll(int sides) {
        seed = seed * 6364136223846793005L + 1442695040888963407L;
        return (int) ((seed >>> 33) % sides);
    }

    private static int some() {
        return roll(3) == 0 ? INTS[roll(INTS.length)] : roll(7);
    }

    public static void main(String[] args) throws ReflectiveOperationException {
        Method[] calls = Arrays.stream(OneFewer.class.getDeclaredMethods())
            .filter(method -> Modifier.isPublic(method.getModifiers()))
            .sorted(Comparator.comparing(Method::getName)).toArray(Method[]::new);
        for (int run = 0; run < 400; run++) {
            OneFewer x = new OneFewer();
            int people = roll(8);
            for (int i = 0; i < people; i++) {
                x.person(roll(7), roll(10));
            }
            for (int i = 0; i < TOWN.length() && run % 2 == 0; i++) {
                x.feed(TOWN.charAt(i));
            }
            for (int call = 0; call < 512; call++) {
                Method method = calls[roll(calls.length)];
                Object[] with = new Object[method.getParameterCount()];
                for (int i = 0; i < with.length; i++) {
                    with[i] = method.getParameterTypes()[i] == boolean.class ? (Object) (roll(3) > 0) : (Object) some();
                }
                // what the call throws ends this test, and so fails it
                method.invoke(x, with);
            }
        }
        System.out.println("no call threw");
    }
}
