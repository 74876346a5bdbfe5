import java.lang.reflect.InvocationTargetException;
import java.lang.reflect.Method;
import java.util.Arrays;
import java.util.Comparator;

/** Runs every test of a class that says a sentence of the document, and tells which sentence does not hold. */
final class Edges {
    static final int NONE = DriftSea.NONE;
    static final int HIDDEN = DriftSea.HIDDEN;
    static final int LEAST = Integer.MIN_VALUE;
    static final int MOST = Integer.MAX_VALUE;

    private static final Check CHECK = new Check();
    private static String sentence = "";

    private Edges() { }

    /** Every method of the class that says a sentence is a test: none has to be named twice. */
    static void runAll(Class<?> tests) throws ReflectiveOperationException {
        Method[] methods = Arrays.stream(tests.getDeclaredMethods())
            .filter(method -> method.isAnnotationPresent(Says.class))
            .sorted(Comparator.comparing(Method::getName)).toArray(Method[]::new);
        for (Method method : methods) {
            sentence = method.getName() + " [" + method.getAnnotation(Says.class).value() + "] ";
            int before = CHECK.askedSoFar();
            try {
                method.setAccessible(true);
                method.invoke(null);
            } catch (InvocationTargetException e) {
                CHECK.due(sentence + "threw " + e.getCause(), 0, 1);
            }
            CHECK.due(sentence + "asks something", CHECK.askedSoFar() > before, true);
        }
        CHECK.due("tests of " + tests.getName(), methods.length > 0, true);
        CHECK.close(tests.getName() + ", " + methods.length + " sentences");
    }

    static void due(String call, long got, long want) {
        CHECK.due(sentence + call, got, want);
    }

    static void due(String call, boolean got, boolean want) {
        CHECK.due(sentence + call, got, want);
    }

    static void placeIs(String what, DriftSea sea, int isle, long x, long y) {
        due(what + ": x of " + isle, Check.isle(sea, isle, 0), x);
        due(what + ": y of " + isle, Check.isle(sea, isle, 1), y);
    }

    /** Runs every SEASON by hand, also more than one call can. */
    static void goAll(DriftSea sea, int seasons) {
        for (int left = seasons; left > 0; left -= 60) {
            sea.go(Math.min(60, left));
        }
    }
}
