import java.lang.reflect.Field;

/**
 * FUEL and SWITCHINGS at their most. No run of calls comes there: six rooms in 999 hours are 5994 at most. So the
 * counter is set inside the object, the one place where a test depends on how the class holds its state.
 */
final class Counters {
    private Counters() { }

    /** The counter when it stood at a number and one room has then been switched on and has burnt for hours. */
    static int behind(int number, String counter, int hours) {
        try {
            Subject subject = burning(number, counter);
            subject.call("hours", hours);
            return (int) subject.call("rule", counter.equals("fuel") ? 2 : 3);
        } catch (ReflectiveOperationException e) {
            throw new IllegalStateException(e);
        }
    }

    /** What hours() says to be burnt when FUEL stood at a number. */
    static int burntBehind(int fuel, int hours) {
        try {
            return (int) burning(fuel, "fuel").call("hours", hours);
        } catch (ReflectiveOperationException e) {
            throw new IllegalStateException(e);
        }
    }

    private static Subject burning(int number, String counter) throws ReflectiveOperationException {
        Subject subject = new Subject();
        for (char c : "room 0 0 0;plain 0 50;".toCharArray()) subject.call("feed", c);
        subject.call("text");
        Field now = TongueRooms.class.getDeclaredField("now");
        now.setAccessible(true);
        Object house = now.get(subject.rooms);
        Field field = house.getClass().getDeclaredField(counter);
        field.setAccessible(true);
        field.setInt(house, number);
        return subject;
    }
}
