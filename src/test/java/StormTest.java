import java.lang.reflect.InvocationTargetException;
import java.lang.reflect.Method;
import java.lang.reflect.Modifier;
import java.util.Arrays;
import java.util.Comparator;
import java.util.List;
import java.util.Random;
import java.util.stream.Stream;

/** No call ever throws, whatever its arguments and the state; the same calls answer the same. */
public final class StormTest {
    private static final int[] EDGES = {Integer.MIN_VALUE, Integer.MIN_VALUE + 1, -2147483647 + 60, -1000, -2, -1, 0, 1, 2, 3, 4, 5, 6,
        7, 9, 10, 31, 32, 60, 61, 63, 64, 99, 100, 255, 256, 999, 1000, 2000000000, 2000000001, Integer.MAX_VALUE - 60, Integer.MAX_VALUE};
    private static final String[] TEXTS = {"",
        "bridge days 1 feels 0 feels 0 cools 0 odds 0;",
        "bridge days 3 feels 9 feels 12 cools 2 odds 5;deed by 0 costs 3 gives 4 takes 4;cart on 1 wide 5 from 1 due 9 pays 999;",
        "bridge days 6 feels 60 feels 60 cools 9 odds 10;deed by 0 costs 99 gives 30 gives 30;deed by 1 costs 0 takes 30 takes 30;"
            + "deed by 0 costs 1 takes 0 gives 30;deed by 1 costs 99 gives 30 takes 30;cart on 0 wide 40 from 0 due 0 pays 0;"
            + "cart on 1 wide 1 from 9 due 9 pays 999;cart on 0 wide 20 from 5 due 9 pays 999;cart on 1 wide 40 from 1 due 0 pays 5;"
            + "cart on 0 wide 13 from 2 due 4 pays 1;cart on 1 wide 30 from 0 due 9 pays 999;",
        "bridge days 6 feels 60 feels 60 cools 9 odds 11;", "cart;", "bridge days 99999999999999999999", "\u00ff"};

    private final Random random;
    private final Due due;
    private final List<Method> face;

    private StormTest(long seed, Due due) {
        random = new Random(seed);
        this.due = due;
        face = Stream.of(QuarrelBridge.class.getDeclaredMethods()).filter(m -> Modifier.isPublic(m.getModifiers()))
            .sorted(Comparator.comparing(Method::getName)).toList();
    }

    public static void main(String[] args) throws Exception {
        Due due = new Due("StormTest");
        int runs = args.length > 0 ? Integer.parseInt(args[0]) : 300;
        for (int run = 0; run < runs; run++) {
            long[] once = new StormTest(run, due).answers();
            long[] again = new StormTest(run, due).answers();
            due.is("run " + run + " answers the same again", Arrays.equals(once, again) ? 1 : 0, 1);
        }
        due.close();
    }

    private long[] answers() throws Exception {
        QuarrelBridge x = new QuarrelBridge();
        long[] told = new long[400];
        for (int i = 0; i < told.length; i++) {
            // A text takes some 25 calls, so there are few of them.
            if (i % 100 == 10) {
                x.end(0);
                Texts.feed(x, TEXTS[random.nextInt(TEXTS.length)]);
                x.bridge();
            }
            told[i] = call(x, face.get(random.nextInt(face.size())));
        }
        return told;
    }

    private long call(QuarrelBridge x, Method m) throws Exception {
        Object[] with = new Object[m.getParameterCount()];
        boolean near = random.nextInt(3) > 0;
        for (int i = 0; i < with.length; i++) {
            int one = near ? random.nextInt(8) - 1 : EDGES[random.nextInt(EDGES.length)];
            if (m.getParameterTypes()[i] == long.class) {
                with[i] = near ? (long) one : random.nextLong();
            } else {
                with[i] = one;
            }
        }
        try {
            return ((Number) m.invoke(x, with)).longValue();
        } catch (InvocationTargetException thrown) {
            due.is(m.getName() + Arrays.toString(with) + " throws " + thrown.getCause(), 1, 0);
            return 0;
        }
    }
}
