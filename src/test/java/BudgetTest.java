import java.lang.management.ManagementFactory;

/** What the dearest calls make: all calls of a run live in one room, so that they should make next to nothing. */
public final class BudgetTest {
    private static final int CALLS = 512;
    private static final String SIX = "room 5 3 9;room 20 1 5;room 9 2 7;room 14 3 6;room 30 1 9;room 1 5 9;"
        + "plain 0 20;quick 1 22;lazy 2 18;bent 3 20;plain 4 25;quick 5 15;wall 4 9;";

    private static long made() {
        return ((com.sun.management.ThreadMXBean) ManagementFactory.getThreadMXBean()).getCurrentThreadAllocatedBytes();
    }

    private static long dearest(TongueRooms x) {
        long sum = 0;
        for (int i = 0; i < CALLS; i++) {
            switch (i % 12) {
                case 0: sum += x.luck(3, 0, 8, 20, 0); break;
                case 1: sum += x.mean(3, 8, 0); break;
                case 2: sum += x.need(0, 60, 99); break;
                case 3: sum += x.swap(60, 0); break;
                case 4: sum += x.ask(2, 0); break;
                case 5: sum += x.lets(1); break;
                case 6: sum += x.drift(i, 60, 1); break;
                case 7: sum += x.keep(0) + x.back(0); break;
                case 8: sum += x.sheet(i % 4, i % 3, 40); break;
                case 9: sum += x.spare(60, 0, 0); break;
                case 10: sum += x.text(); break;
                default: for (char c : SIX.toCharArray()) x.feed(c);
                    x.text();
            }
        }
        return sum;
    }

    public static void main(String[] args) {
        TongueRooms warmUp = new TongueRooms();
        made();
        dearest(warmUp);
        long before = made();
        TongueRooms x = new TongueRooms();
        long object = made() - before;
        long sum = dearest(x);
        long calls = made() - before - object;
        System.out.println("a new object: " + object + " bytes; " + CALLS + " calls: " + calls + " bytes; sum " + sum);
        // SIX.toCharArray() of the test itself makes some 300 bytes in every twelfth call
        if (object > 64000 || calls > 64000) {
            System.out.println("too much is made");
            System.exit(1);
        }
    }
}
