import java.lang.reflect.InvocationTargetException;
import java.lang.reflect.Method;
import java.util.HashMap;
import java.util.Map;

/** A new TongueRooms whose calls are made by their names. */
final class Subject {
    /** What later calls answer is free, so that no test may ask for it. */
    static final int MOST_CALLS = 512;
    private static final Map<String, Method> BY_NAME = new HashMap<>();

    static {
        for (Method m : TongueRooms.class.getDeclaredMethods()) {
            if (java.lang.reflect.Modifier.isPublic(m.getModifiers())) BY_NAME.put(m.getName(), m);
        }
    }

    final TongueRooms rooms = new TongueRooms();
    private int calls;

    /** What the call answers; whatever it throws is thrown on as a fault of the class. */
    long call(String name, int... a) {
        calls++;
        if (calls > MOST_CALLS) throw new IllegalStateException("more than " + MOST_CALLS + " calls");
        Object[] boxed = new Object[a.length];
        for (int i = 0; i < a.length; i++) boxed[i] = a[i];
        try {
            return ((Number) BY_NAME.get(name).invoke(rooms, boxed)).longValue();
        } catch (InvocationTargetException e) {
            throw new IllegalStateException(name + java.util.Arrays.toString(a) + " threw " + e.getCause(), e);
        } catch (IllegalAccessException e) {
            throw new IllegalStateException(e);
        }
    }
}
