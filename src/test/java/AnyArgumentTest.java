import java.lang.reflect.InvocationTargetException;
import java.lang.reflect.Method;
import java.lang.reflect.Modifier;
import java.util.List;

/**
 * Each call with near and far arguments, in many states: it throws nothing but what its line of the
 * face names, and if it throws, it changes nothing.
 */
final class AnyArgumentTest {
    private static final Check CHECK = new Check();
    private static final int[] ARGUMENTS = {Integer.MIN_VALUE, -1000, -999, -1, 0, 1, 2, 6, 7, 15, 16, 30, 31, 32,
        63, 64, 999, 1000, 1 << 30, Integer.MAX_VALUE};
    private static final String[] TEXTS = {
        "",
        "terraces 2; rain 999999 * 999999 from day to -day; look from 1 to 1;",
        "terraces 7; level -999999 from height(-7) to -2 / 0; rain -(0 - 999999 * 4295) from 0 to 5 when 1 < 2;",
        "terraces 32; rain max(day, 3) from waiting to pushes; level lowest from water to highest when day = 2;"};

    public static void main(String[] args) throws IllegalAccessException {
        for (String text : TEXTS) {
            for (Method method : TerraceRain.class.getDeclaredMethods()) {
                if (Modifier.isPublic(method.getModifiers())) {
                    everyArgument(text, method);
                }
            }
        }
        CHECK.end();
    }

    /** Of more than two arguments those behind the second one follow the first one through the row. */
    private static void everyArgument(String text, Method method) throws IllegalAccessException {
        Object[] arguments = new Object[method.getParameterCount()];
        for (int i = 0; i < ARGUMENTS.length; i++) {
            TerraceRain x = busy(text, i);
            for (int j = 0; j < ARGUMENTS.length; j++) {
                for (int k = 0; k < arguments.length; k++) {
                    arguments[k] = ARGUMENTS[(k == 1 ? j : i + j * (k / 2)) % ARGUMENTS.length];
                }
                call(x, method, arguments);
            }
        }
    }

    private static void call(TerraceRain x, Method method, Object[] arguments) throws IllegalAccessException {
        long before = x.digest();
        int errorBefore = x.errorAt();
        String what = method.getName() + List.of(arguments);
        try {
            CHECK.same(what + " answers", method.invoke(x, arguments) != null, true);
        } catch (InvocationTargetException e) {
            Class<?> thrown = e.getCause().getClass();
            CHECK.same(what + " may throw " + thrown, List.of(method.getExceptionTypes()).contains(thrown), true);
            CHECK.same(what + ": digest() behind it", x.digest(), before);
            CHECK.same(what + ": errorAt() behind it", x.errorAt(), errorBefore);
        }
    }

    /** Rain and a level wait, some days went by, and a valley with an error stands on the tape. */
    private static TerraceRain busy(String text, int days) {
        TerraceRain x = Check.taught(text);
        x.rain(0, x.terraces() - 1, 999);
        x.bringTo(x.terraces() / 2, x.terraces() - 1, -999);
        x.rain(1, x.terraces() - 1, -5);
        if (days > 0) {
            x.passDays(days);
        }
        Check.feed(x, "terraces 5; rain 1234567 from 0 to 1;");
        return x;
    }
}
