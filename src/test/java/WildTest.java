import java.lang.reflect.InvocationTargetException;
import java.lang.reflect.Method;
import java.util.Arrays;
import java.util.Comparator;
import java.util.Random;

/** Every method with any arguments in any state: nothing is thrown, and two objects answer alike. */
public final class WildTest {
    private static final Check CHECK = new Check("WildTest");
    private static final String[] TEXTS = {
        "",
        "office rooms 1 in 0 at 0;",
        "office rooms 6 in 5 at 399;" + "official room 5 from 0 to 9 days 31 fades 20 price 99;".repeat(8) + "permit 0 7;",
        "office rooms 3 in 0 at 9;" + "official room 0 from 0 to 9 days 31 fades 1 price 3;".repeat(4)
                + "official room 1 from 2 to 7 days 21 lunch 4;".repeat(4) + "way 0 1 9; way 1 2 1; needs 1 0; needs 2 1;"
                + "needs 7 6; bars 6 5; bars 4 0; bars 0 3; leave 5 from 0 to 3; permit 2 4 7;",
        "office rooms 2 in 0 at 390;" + "official room 0 from 0 to 9 days 31;".repeat(7) + "way 0 1 9; permit 1 2 3;",
        "office rooms 2 in 0 at 0; official room 9 from 0 to 9 days 31;",
    };

    public static void main(String[] args) throws Exception {
        Method[] face = StampOrder.class.getDeclaredMethods();
        Method[] open = Arrays.stream(face).filter(m -> (m.getModifiers() & 1) != 0)
                .sorted(Comparator.comparing(Method::getName)).toArray(Method[]::new);
        for (int seed = 0; seed < 250; seed++) {
            run(open, seed);
        }
        CHECK.close();
    }

    private static void run(Method[] open, int seed) throws Exception {
        Random random = Check.randomOf(seed);
        StampOrder x = new StampOrder();
        StampOrder y = new StampOrder();
        for (int i = 0; i < 512; i++) {
            if (random.nextInt(100) == 0) {
                String text = TEXTS[random.nextInt(TEXTS.length)];
                Check.type(x, text);
                Check.type(y, text);
                CHECK.due("office", x.office(), y.office());
            }
            Method m = open[random.nextInt(open.length)];
            Object[] with = new Object[m.getParameterCount()];
            for (int k = 0; k < with.length; k++) {
                boolean wide = m.getParameterTypes()[k] == long.class;
                with[k] = wide ? (Object) (long) number(random) : (Object) number(random);
            }
            String call = m.getName() + Arrays.toString(with);
            try {
                long got = ((Number) m.invoke(x, with)).longValue();
                long other = ((Number) m.invoke(y, with)).longValue();
                CHECK.due("seed " + seed + ": " + call, got, other);
            } catch (InvocationTargetException e) {
                System.out.println("seed " + seed + ": " + call + " threw " + e.getCause());
                CHECK.due(call, 1, 0);
            }
        }
    }

    private static int number(Random random) {
        switch (random.nextInt(8)) {
            case 0:
                return random.nextInt();
            case 1:
                return random.nextBoolean() ? Integer.MAX_VALUE : Integer.MIN_VALUE;
            case 2:
                return random.nextInt(500) - 20;
            case 3:
                return 0;
            default:
                return random.nextInt(11) - 2;
        }
    }
}
