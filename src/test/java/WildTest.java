import java.lang.reflect.InvocationTargetException;
import java.lang.reflect.Method;
import java.lang.reflect.Modifier;
import java.util.Arrays;
import java.util.Comparator;
import java.util.NoSuchElementException;
import java.util.Random;

/** Calls of all sorts with numbers of all sorts: nothing is thrown but by isle, and refusals change nothing. */
public final class WildTest {
    private static final int[] WILD = {Integer.MIN_VALUE, Integer.MAX_VALUE, -1000001, -1000, -2, -1, 0, 1, 2, 3, 5, 6,
        9, 10, 12, 20, 21, 45, 54, 60, 61, 99, 100, 240, 999, 1000, 0x693B6900, 0x793A6400};
    private static final String[] SEAS = {"i;i", "wj2r1;ix0n1;ix9g1m3;ix30y9n0;iy0;ix99y99n1;ix1y1;t;ta5b3k1w9;ta2b4;b;ba4b5l9",
        "wj9;ix0y0;ix4y0;ix8y0;tw9;ta1b2;ta0b2k1w3;tk1;t;t;t;t;b"};
    private static final String[] RULES = {"y:h*w-d", "y:(d>9|k=1)&!m=n?0-w;y:w*[d/n]"};

    public static void main(String[] args) throws Exception {
        Check check = new Check();
        Method[] methods = Arrays.stream(DriftSea.class.getDeclaredMethods())
            .filter(m -> Modifier.isPublic(m.getModifiers())).toArray(Method[]::new);
        Arrays.sort(methods, Comparator.comparing(Method::getName));
        check.due("methods of the face", methods.length, 45);
        Random random = new Random(7);
        for (int run = 0; run < 300; run++) {
            DriftSea sea = run % 4 == 3 ? new DriftSea() : Check.sea(SEAS[run % 4]);
            for (String rule : RULES) {
                Check.rule(sea, rule);
            }
            sea.pull(random.nextInt(3) - 1);
            for (int call = 0; call < 200; call++) {
                callOne(check, sea, methods[random.nextInt(methods.length)], random);
            }
        }
        check.close("WildTest");
    }

    private static void callOne(Check check, DriftSea sea, Method method, Random random) throws Exception {
        Object[] values = new Object[method.getParameterCount()];
        for (int i = 0; i < values.length; i++) {
            int wild = random.nextBoolean() ? random.nextInt(7) : WILD[random.nextInt(WILD.length)];
            values[i] = method.getParameterTypes()[i] == long.class ? (Object) random.nextLong() : (Object) wild;
        }
        String before = countsOf(sea);
        Object answer;
        try {
            answer = method.invoke(sea, values);
        } catch (InvocationTargetException e) {
            boolean allowed = method.getName().equals("isle") && e.getCause() instanceof NoSuchElementException;
            check.due(method.getName() + Arrays.toString(values) + " threw " + e.getCause(), allowed, true);
            return;
        }
        boolean refused = answer.equals(-1) || answer.equals(false) || answer.equals(DriftSea.HIDDEN);
        if (refused) {
            check.due(method.getName() + Arrays.toString(values) + " was refused and changed nothing",
                countsOf(sea).equals(before), true);
        }
    }

    private static String countsOf(DriftSea sea) {
        StringBuilder all = new StringBuilder();
        for (int what = 0; what < 15; what++) {
            all.append(sea.count(what)).append(' ');
        }
        for (int isle = 0; isle < sea.count(0); isle++) {
            for (int what = 0; what < 10; what++) {
                all.append(sea.isle(isle, what)).append(' ');
            }
        }
        for (int tie = 0; tie < sea.count(2); tie++) {
            all.append(sea.tie(tie, 2)).append(' ');
        }
        for (int bridge = 0; bridge < sea.count(3); bridge++) {
            all.append(sea.bridge(bridge, 3)).append(' ');
        }
        return all.toString();
    }
}
