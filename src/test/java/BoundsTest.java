import java.util.LinkedHashSet;
import java.util.Set;

/**
 * Each number of each call: all that are as told are not BAD; one below, one above, and the ends of the ints are, and
 * change nothing.
 */
public final class BoundsTest {
    /** Of each number what is asked else, and its bounds; a bound that is left out is none. */
    private static final String[] CALLS = {
        "feed 5:0..127", "end 3:0..17", "rule 0:0..6", "room 0:0..5 0:0..7", "wall 0:0..4", "outside 0:0..7", "alter 0:0..5 0:0..2 5:5..5",
        "alter 0:0..5 0:0..0 5:0..99", "alter 0:0..5 1:1..1 5:0..9", "alter 0:0..5 2:2..2 5:0..9", "fit 0:0..5 0:0..3 5:0..99", "strip 0:0..5",
        "mark 0:0..5 5:0..99", "lag 0:0..4 5:0..9", "sky 0:0..7 5:0..99", "hours 5:0..48", "runs 5:0..60 0:0..4", "ahead 0:0..5 5:0..60 0:0..1",
        "cold 0:0..5 5:0..99", "need 0:0..5 5:1..60 5:0..99", "kind 0:0..5 5:0..60 0:0..1", "swap 5:0..60 0:0..1", "seal 5:0..60 0:0..1",
        "spare 5:0..60 5:0..99 0:0..1", "luck 5:0..10 0:0..5 2:0..8 5:0..99 0:0..1", "mean 5:0..10 2:0..8 0:0..1", "see 5:0..20 0:0..5 5:0..99",
        "forget 1:0..2", "kinds 0:0..5", "lets 0:0..4", "ask 0:0..4 0:0..1", "drift 5:.. 5:1..60 0:0..1", "keep 0:0..1", "back 0:0..1",
        "sheet 0:0..3 0:0..2 5:..40", "lay 0:0..3 5:.. 5:..", "read 0:0..3 0:0..2 0:.. 1:0..20", "count 0:0..5"};
    private static int wrong = 0;
    private static int asked = 0;

    private static void fail(String what) {
        wrong++;
        System.out.println(what);
    }

    /** A call with its other numbers as they are. */
    private static String with(String[] words, int at, String number) {
        StringBuilder call = new StringBuilder(words[0]);
        for (int i = 1; i < words.length; i++) call.append(' ').append(i == at ? number : words[i].substring(0, words[i].indexOf(':')));
        return call.toString();
    }

    private static void asTold(String call) {
        asked++;
        long got = Twins.call(Twins.in(Twins.RICH), call);
        if (got == TongueRooms.BAD) fail(call + " is BAD");
    }

    private static void notAsTold(String call) {
        asked++;
        Subject subject = Twins.in(Twins.RICH);
        long got = Twins.call(subject, call);
        if (got != TongueRooms.BAD) fail(call + " is " + got + ", not BAD");
        String other = Twins.difference(subject, Twins.in(Twins.RICH));
        if (!other.isEmpty()) fail("behind " + call + ": " + other);
    }

    private static void bounds(String[] words, int at) {
        String bounds = words[at].substring(words[at].indexOf(':') + 1);
        String least = bounds.substring(0, bounds.indexOf(".."));
        String most = bounds.substring(bounds.indexOf("..") + 2);
        Set<Integer> outside = new LinkedHashSet<>();
        if (!least.isEmpty()) outside.addAll(Set.of(Integer.parseInt(least) - 1, Integer.MIN_VALUE));
        else asTold(with(words, at, "" + Integer.MIN_VALUE));
        if (!most.isEmpty()) outside.addAll(Set.of(Integer.parseInt(most) + 1, Integer.MAX_VALUE));
        else asTold(with(words, at, "" + Integer.MAX_VALUE));
        // what is one choice is not tried at its sides: another line of the calls has its bounds
        if (!least.equals(most)) for (int v : outside) notAsTold(with(words, at, "" + v));
        int from = least.isEmpty() ? -9 : Integer.parseInt(least);
        int to = most.isEmpty() ? 9 : Integer.parseInt(most);
        for (int v = from; v <= to; v++) asTold(with(words, at, "" + v));
    }

    public static void main(String[] args) {
        for (String line : CALLS) {
            String[] words = line.split(" ");
            for (int at = 1; at < words.length; at++) bounds(words, at);
        }
        System.out.println(wrong == 0 ? asked + " numbers are as told or BAD" : wrong + " bounds are not as told");
        if (wrong != 0) System.exit(1);
    }
}
