import java.lang.reflect.Constructor;
import java.lang.reflect.Field;
import java.lang.reflect.Method;
import java.lang.reflect.Modifier;
import java.util.ArrayList;
import java.util.Arrays;
import java.util.Collections;
import java.util.List;

/** The public face, as the document prints it, and nothing beside it. */
final class FaceTest {
    private static final Check CHECK = new Check();
    private static final String INDEX = " throws IndexOutOfBoundsException";
    private static final String ARGUMENT = " throws IllegalArgumentException";
    private static final String STATE = " throws IllegalStateException";
    private static final String[] FACE = {
        "int feed(int, int, int, int, int)" + STATE, "int trim(int)" + ARGUMENT, "int teach()", "int errorAt()",
        "int terraces()", "int branches()", "int orders()", "int days()", "int pushes()", "int waitingBranches()",
        "int firstOf(int)" + INDEX, "int lastOf(int)" + INDEX, "long waterToldBy(int)" + INDEX,
        "int highestToldBy(int)" + INDEX, "int lowestToldBy(int)" + INDEX, "int rainWaitingAt(int)" + INDEX,
        "boolean hasLevelWaiting(int)" + INDEX, "int levelWaitingAt(int)" + INDEX + ", IllegalStateException",
        "int heightOf(int)" + INDEX, "int waitingOver(int)" + INDEX, "int pushesToLook(int, int)" + INDEX,
        "long lookForWater(int, int)" + INDEX, "int lookForHighest(int, int)" + INDEX,
        "int lookForLowest(int, int)" + INDEX, "int lookForFirst(int)", "int openAll()",
        "int rain(int, int, int)" + INDEX + ", IllegalArgumentException",
        "long bringTo(int, int, int)" + INDEX + ", IllegalArgumentException", "int passDays(int)" + ARGUMENT,
        "long waterAfter(int)" + ARGUMENT, "int waitingAfter(int)" + ARGUMENT, "int daysUntil(int, int)" + INDEX,
        "int bestShower(int, int)" + ARGUMENT, "double meanHeight()", "long digest()"};

    public static void main(String[] args) {
        List<String> due = new ArrayList<>(Arrays.asList(FACE));
        List<String> got = new ArrayList<>();
        List<String> names = new ArrayList<>();
        for (Method method : TerraceRain.class.getDeclaredMethods()) {
            if (!Modifier.isPrivate(method.getModifiers())) {
                got.add(signature(method));
                names.add(method.getName());
            }
        }
        Collections.sort(due);
        Collections.sort(got);
        CHECK.same("the face", got, due);
        CHECK.same("the class is public and final", TerraceRain.class.getModifiers(),
                Modifier.PUBLIC | Modifier.FINAL);
        Constructor<?>[] constructors = TerraceRain.class.getDeclaredConstructors();
        CHECK.same("there is one constructor", constructors.length, 1);
        CHECK.same("it is public", constructors[0].getModifiers(), Modifier.PUBLIC);
        CHECK.same("it takes nothing", constructors[0].getParameterCount(), 0);
        inside(names);
        CHECK.end();
    }

    private static String signature(Method method) {
        StringBuilder text = new StringBuilder(method.getReturnType().getSimpleName());
        text.append(' ').append(method.getName()).append('(').append(joined(method.getParameterTypes())).append(')');
        if (method.getExceptionTypes().length > 0) {
            text.append(" throws ").append(joined(method.getExceptionTypes()));
        }
        CHECK.same(text + " is public and not static", method.getModifiers(), Modifier.PUBLIC);
        return text.toString();
    }

    private static String joined(Class<?>[] types) {
        List<String> names = new ArrayList<>();
        for (Class<?> type : types) {
            names.add(type.getSimpleName());
        }
        return String.join(", ", names);
    }

    private static void inside(List<String> names) {
        for (Field field : TerraceRain.class.getDeclaredFields()) {
            CHECK.same(field + " is private", Modifier.isPrivate(field.getModifiers()), true);
        }
        for (Method method : TerraceRain.class.getDeclaredMethods()) {
            boolean bearsAName = Modifier.isPrivate(method.getModifiers()) && names.contains(method.getName());
            CHECK.same(method + " bears the name of a public one", bearsAName, false);
        }
        for (Class<?> inner : TerraceRain.class.getDeclaredClasses()) {
            int modifiers = inner.getModifiers();
            CHECK.same(inner + " is static", Modifier.isStatic(modifiers), true);
            CHECK.same(inner + " is hidden", Modifier.isPublic(modifiers) || Modifier.isProtected(modifiers), false);
            for (Field field : inner.getDeclaredFields()) {
                boolean changes = Modifier.isStatic(field.getModifiers()) && !Modifier.isFinal(field.getModifiers());
                CHECK.same(field + " is static and changes", changes, false);
            }
        }
    }
}
