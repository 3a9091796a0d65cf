import java.lang.reflect.Constructor;
import java.lang.reflect.Field;
import java.lang.reflect.Method;
import java.lang.reflect.Modifier;
import java.util.Arrays;
import java.util.Set;
import java.util.TreeSet;
import java.util.stream.Collectors;
import java.util.stream.Stream;

/** The document's face and nothing else, and the constants. */
public final class FaceTest {
    private static final Check check = new Check();
    private static final String[] METHODS = {
        "int setPeriod(int) IllegalArgumentException",
        "int setMode(int) IllegalArgumentException IllegalStateException",
        "int setRounds(int) IllegalArgumentException",
        "int append(int) IllegalArgumentException IllegalStateException",
        "int appendMissing() IllegalStateException",
        "int set(int,int) IndexOutOfBoundsException IllegalArgumentException",
        "int setMissing(int) IndexOutOfBoundsException IllegalStateException",
        "int setDays(int,int) IndexOutOfBoundsException IllegalArgumentException",
        "int removeLast() IllegalStateException",
        "int fill() IllegalStateException",
        "int size()",
        "int value(int) IndexOutOfBoundsException IllegalStateException",
        "int missing(int) IllegalArgumentException",
        "boolean canDecompose()",
        "long firstTrend(int) IllegalStateException IndexOutOfBoundsException",
        "long deviation(int) IllegalStateException IndexOutOfBoundsException",
        "int weight(int) IllegalStateException IndexOutOfBoundsException",
        "long spread() IllegalStateException",
        "long factor(int) IllegalArgumentException IllegalStateException",
        "long adjusted(int) IllegalStateException IndexOutOfBoundsException",
        "long trend(int) IllegalStateException IndexOutOfBoundsException",
        "long irregular(int) IllegalStateException IndexOutOfBoundsException",
        "int outlierCount() IllegalStateException",
        "int outlier(int) IllegalStateException IndexOutOfBoundsException",
        "int seasonOfRank(int) IllegalArgumentException IllegalStateException",
        "long forecast(int) IllegalArgumentException IllegalStateException",
        "long daysEffect() IllegalStateException",
        "int removeDays() IllegalStateException",
        "int undo() IllegalStateException",
        "long digest()",
    };

    public static void main(String[] args) {
        Class<?> face = SeasonalAdjuster.class;
        check.isTrue("the class is public and final",
                Modifier.isPublic(face.getModifiers()) && Modifier.isFinal(face.getModifiers()));
        methods(face);
        constantsAndConstructor(face);
        innerClasses(face);
        check.finish();
    }

    private static void methods(Class<?> face) {
        Set<String> found = new TreeSet<>();
        Set<String> names = new TreeSet<>();
        for (Method method : face.getDeclaredMethods()) {
            if (Modifier.isPrivate(method.getModifiers()) || method.isSynthetic()) {
                continue;
            }
            check.isTrue(method + " is public and no static one",
                    Modifier.isPublic(method.getModifiers()) && !Modifier.isStatic(method.getModifiers()));
            found.add(describe(method));
            names.add(method.getName());
        }
        Set<String> due = new TreeSet<>(Arrays.asList(METHODS));
        check.same("the public methods", found.toString(), due.toString());
        Stream.concat(Stream.of(face), Stream.of(face.getDeclaredClasses()))
                .flatMap(type -> Stream.of(type.getDeclaredMethods()))
                .filter(method -> !Modifier.isPublic(method.getModifiers()))
                .forEach(method -> check.isTrue(method + " has a name of its own", !names.contains(method.getName())));
    }

    private static String describe(Method method) {
        String parameters = Stream.of(method.getParameterTypes()).map(Class::getSimpleName)
                .collect(Collectors.joining(","));
        String thrown = Stream.of(method.getExceptionTypes()).map(type -> " " + type.getSimpleName())
                .collect(Collectors.joining());
        return method.getReturnType().getSimpleName() + " " + method.getName() + "(" + parameters + ")" + thrown;
    }

    private static void constantsAndConstructor(Class<?> face) {
        check.same("NONE", SeasonalAdjuster.NONE, -1);
        check.same("ADDITIVE", SeasonalAdjuster.ADDITIVE, 0);
        check.same("MULTIPLICATIVE", SeasonalAdjuster.MULTIPLICATIVE, 1);
        Set<String> names = new TreeSet<>();
        for (Field field : face.getDeclaredFields()) {
            if (!Modifier.isPrivate(field.getModifiers())) {
                names.add(Modifier.toString(field.getModifiers()) + " " + field.getType() + " " + field.getName());
            }
        }
        check.same("the public fields", names.toString(), new TreeSet<>(Set.of("public static final int NONE",
                "public static final int ADDITIVE", "public static final int MULTIPLICATIVE")).toString());
        Constructor<?>[] constructors = face.getDeclaredConstructors();
        check.same("one constructor", constructors.length, 1);
        check.isTrue("it is public, without parameters",
                Modifier.isPublic(constructors[0].getModifiers()) && constructors[0].getParameterCount() == 0);
    }

    private static void innerClasses(Class<?> face) {
        for (Class<?> inner : face.getDeclaredClasses()) {
            int modifiers = inner.getModifiers();
            check.isTrue(inner + " is static and not public",
                    Modifier.isStatic(modifiers) && !Modifier.isPublic(modifiers) && !Modifier.isProtected(modifiers));
        }
    }
}
