import java.util.regex.Matcher;
import java.util.regex.Pattern;

/**
 * Calls on a new object, each with the answer that is due. A step is "call numbers = answer": one number may be
 * a range (0..5), each of which has that answer, and "*20" behind the answer makes the call so many times; "_" is
 * any answer. A step that begins with a quote feeds the text between the quotes and asks text(). The oracle answers
 * each call too: a row that it does not bear out is wrong as well.
 */
final class Steps {
    private static final Pattern STEP = Pattern.compile("(?s)(.*) = (-?\\d+|_)(?: \\*(\\d+))?");
    private static final Pattern RANGE = Pattern.compile("(-?\\d+)\\.\\.(-?\\d+)");

    private final String label;
    private final Subject subject = new Subject();
    private final Oracle oracle = new Oracle();
    private int wrong;

    private Steps(String label) {
        this.label = label;
    }

    /** How many answers are not as due; each of them is printed behind the label. */
    static int wrongOf(String label, String... steps) {
        Steps run = new Steps(label);
        for (String step : steps) run.take(step);
        return run.wrong;
    }

    private void take(String step) {
        Matcher m = STEP.matcher(step);
        if (!m.matches()) throw new IllegalArgumentException(step);
        int times = m.group(3) == null ? 1 : Integer.parseInt(m.group(3));
        for (int i = 0; i < times; i++) take(m.group(1), m.group(2));
    }

    private void take(String call, String due) {
        Matcher range = RANGE.matcher(call);
        if (call.startsWith("'")) {
            for (char c : call.substring(1, call.length() - 1).toCharArray()) ask("feed " + (int) c, "_");
            ask("text", due);
        } else if (range.find()) {
            for (int i = Integer.parseInt(range.group(1)); i <= Integer.parseInt(range.group(2)); i++) {
                ask(call.substring(0, range.start()) + i + call.substring(range.end()), due);
            }
        } else {
            ask(call, due);
        }
    }

    private void ask(String call, String due) {
        String[] words = call.trim().split(" +");
        int[] numbers = new int[words.length - 1];
        for (int i = 0; i < numbers.length; i++) numbers[i] = Integer.parseInt(words[i + 1]);
        compare(call, "", subject.call(words[0], numbers), due);
        compare(call, "the oracle ", oracle.call(words[0], numbers), due);
    }

    private void compare(String call, String who, long got, String due) {
        if (!due.equals("_") && got != Long.parseLong(due)) {
            wrong++;
            System.out.println(label + ": " + call + ": " + who + "answered " + got + ", due is " + due);
        }
    }
}
