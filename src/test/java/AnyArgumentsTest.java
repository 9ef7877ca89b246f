import java.lang.reflect.InvocationTargetException;
import java.lang.reflect.Method;
import java.lang.reflect.Modifier;
import java.util.Arrays;
import java.util.Random;

/** Any arguments in any state, far beyond 512 calls too: no call throws. */
public final class AnyArgumentsTest {
    private static final int[] ODD = {0, 1, -1, -2, 2, 3, 5, 6, 7, 9, 10, 11, 12, 13, 19, 20, 23, 24, 31, 32, 63, 64, 99,
        100, 101, 255, 364, 365, 1023, 1024, 1439, 1440, 2000, 9999, 10000, Integer.MAX_VALUE, Integer.MIN_VALUE,
        Integer.MAX_VALUE - 1, Integer.MIN_VALUE + 1, 1 << 30};
    private static final String TEXT = "place a;place b;place c;way a b 100 5;way b c 200 6 bad;school s at c 480;"
            + "school t at a 490;stop p at a;stop q at b;right if far < 200 or class < 6;seats 3;bus 5 1;taxi 9;";

    public static void main(String[] args) throws Exception {
        Method[] methods = Arrays.stream(SchoolRides.class.getDeclaredMethods())
                .filter(m -> Modifier.isPublic(m.getModifiers())).toArray(Method[]::new);
        Arrays.sort(methods, (a, b) -> a.getName().compareTo(b.getName()));
        Random chance = new Random(4);
        int thrown = 0;
        long calls = 0;
        for (int run = 0; run < 300 && thrown < 5; run++) {
            SchoolRides x = new SchoolRides();
            if (run % 3 != 0) {
                Check.read(x, TEXT, run % 2);
                for (int i = 0; i < run % 21; i++) {
                    x.child(chance.nextInt(4), chance.nextInt(3), chance.nextInt(13), chance.nextInt(4));
                }
            }
            for (int i = 0; i < 2500; i++) {
                Method m = methods[chance.nextInt(methods.length)];
                Object[] with = draw(m, chance, run);
                calls++;
                try {
                    m.invoke(x, with);
                } catch (InvocationTargetException e) {
                    thrown++;
                    System.out.println(m.getName() + Arrays.toString(with) + " threw " + e.getCause());
                }
            }
        }
        System.out.println(calls + " calls, " + thrown + " threw");
        if (thrown != 0) {
            System.exit(1);
        }
    }

    private static Object[] draw(Method m, Random chance, int run) {
        Class<?>[] types = m.getParameterTypes();
        Object[] with = new Object[types.length];
        for (int i = 0; i < with.length; i++) {
            with[i] = types[i] == boolean.class ? (Object) chance.nextBoolean()
                    : (Object) (chance.nextInt(3) == 0 ? ODD[chance.nextInt(ODD.length)]
                            : chance.nextInt(20) == 0 ? chance.nextInt() : chance.nextInt(run % 5 == 0 ? 100 : 12));
        }
        return with;
    }
}
