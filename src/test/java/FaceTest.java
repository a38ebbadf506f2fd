import java.lang.reflect.Constructor;
import java.lang.reflect.Field;
import java.lang.reflect.Method;
import java.lang.reflect.Modifier;
import java.util.Arrays;
import java.util.Set;
import java.util.TreeSet;

/** The public face is the document's, whole and with nothing beside it. */
public final class FaceTest {
    private static final Set<String> METHODS = Set.of("admit/3", "remove/1", "core/1", "secondCore/1",
        "firstCost/1", "load/1", "running/2", "response/2", "spare/2");

    public static void main(String[] args) throws ReflectiveOperationException {
        Class<?> type = SemiPartEdf.class;
        Due.holds("the class is public and final",
            Modifier.isPublic(type.getModifiers()) && Modifier.isFinal(type.getModifiers()));
        Due.is("nested classes", type.getDeclaredClasses().length, 0);
        constants(type);
        constructor(type);
        methods(type);
        Due.end();
    }

    private static void constants(Class<?> type) throws ReflectiveOperationException {
        String[] names = {"BAD_PERIOD", "BAD_COST", "FULL", "NO_CORE", "NO_TASK", "BAD_CORE", "BAD_TIME"};
        for (int k = 0; k < names.length; k++) {
            Field field = type.getDeclaredField(names[k]);
            Due.is(names[k], field.getInt(null), -1 - k);
            Due.is(names[k] + " is public static final", field.getModifiers(),
                Modifier.PUBLIC | Modifier.STATIC | Modifier.FINAL);
        }
        for (Field field : type.getDeclaredFields()) {
            Due.holds(field.getName() + " is private or the document's",
                Modifier.isPrivate(field.getModifiers()) || Arrays.asList(names).contains(field.getName()));
        }
    }

    private static void constructor(Class<?> type) throws ReflectiveOperationException {
        Constructor<?> made = type.getDeclaredConstructor(int.class);
        Due.is("constructors", type.getDeclaredConstructors().length, 1);
        Due.holds("the constructor is public", Modifier.isPublic(made.getModifiers()));
    }

    private static void methods(Class<?> type) {
        Set<String> found = new TreeSet<>();
        for (Method method : type.getDeclaredMethods()) {
            if (!Modifier.isPrivate(method.getModifiers())) {
                found.add(method.getName() + "/" + method.getParameterCount());
                Due.holds(method.getName() + " is public", Modifier.isPublic(method.getModifiers()));
                Due.holds(method.getName() + " answers an int", method.getReturnType() == int.class);
                for (Class<?> parameter : method.getParameterTypes()) {
                    Due.holds(method.getName() + " takes ints", parameter == int.class);
                }
            }
        }
        Due.holds("the methods are the document's: " + found, found.equals(METHODS));
    }
}
