import java.lang.reflect.Field;

/** Reads and sets the private fields of an object, for what no run of calls brings about. */
final class Inside {
    private Inside() {
    }

    private static Field field(Object of, String name) throws NoSuchFieldException {
        Field field = of.getClass().getDeclaredField(name);
        field.setAccessible(true);
        return field;
    }

    static Object get(Object of, String name) throws ReflectiveOperationException {
        return field(of, name).get(of);
    }

    static void set(Object of, String name, Object v) throws ReflectiveOperationException {
        field(of, name).set(of, v);
    }
}
