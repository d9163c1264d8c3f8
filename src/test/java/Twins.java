import java.util.ArrayList;
import java.util.Arrays;
import java.util.List;

/** Two objects in the same state, of which one answers a call more: nothing that is asked then may tell them apart. */
final class Twins {
    /** All there is: rooms on and not, both images, what is seen and is so, a sheet of each lane, a FAULT of read(). */
    static final String[] TOLD = {
        "'room20 3 5;room10 0 0;room30 1 9;room5 2 4;room15 0 2;room9 5 1;plain0 22;quick1 12;lazy2 25;bent3 20;plain4 21;"
            + "quick5 8;wall1 5;out4 3 2 6 14;'",
        "hours 3", "keep 0", "hours 2", "keep 1", "hours 1", "sheet 0 0 6", "sheet 1 1 4", "sheet 2 2 5",
        "lay 0 1 30", "lay 0 2 1", "lay 0 3 20", "lay 0 4 5", "lay 0 5 9", "lay 1 0 2", "lay 1 1 44", "lay 2 2 3", "lay 2 3 7", "lay 2 4 1",
        "read 2 2 0 3", "see 0 0 16", "see 2 3 15"};
    /** The same, and a FAULT of text(), and bytes on the tape. */
    static final String[] RICH = behind(TOLD, "'out;out;'", "+room7 6 5;out 44;");
    /** Nothing more can be put anywhere: the tape, what is seen, the hours are full; three rooms have no tongue. */
    static final String[] FULL = {
        "'room20 3 5;room10 0 0;room30 1 9;room5 2 4;room15 0 2;room9 5 1;plain0 22;bent3 20;quick5 8;'", "keep 1", "*20 hours 48",
        "hours 39", "*6 see 0 0 22", "sheet 0 0 6", "+room7 6 5;out 44;", "*143 feed 32"};
    /** Two rooms without a tongue, no images, sheets of no cells and nothing. */
    static final String[] PLAIN = {"'room50 0 0;room50 0 0;'", "sheet 0 0 0"};
    static final String[] NEW = {};

    private Twins() { }

    private static String[] behind(String[] state, String... steps) {
        String[] all = Arrays.copyOf(state, state.length + steps.length);
        System.arraycopy(steps, 0, all, state.length, steps.length);
        return all;
    }

    /** A new object in that state. A text in quotes is told; one behind + is only fed; *n makes a call n times. */
    static Subject in(String[] state) {
        Subject subject = new Subject();
        for (String step : state) {
            if (step.startsWith("'")) {
                feed(subject, step.substring(1, step.length() - 1));
                subject.call("text");
            } else if (step.startsWith("+")) {
                feed(subject, step.substring(1));
            } else if (step.startsWith("*")) {
                int gap = step.indexOf(' ');
                for (int i = Integer.parseInt(step.substring(1, gap)); i > 0; i--) call(subject, step.substring(gap + 1));
            } else {
                call(subject, step);
            }
        }
        return subject;
    }

    private static void feed(Subject subject, String text) {
        for (char c : text.toCharArray()) subject.call("feed", c);
    }

    static long call(Subject subject, String call) {
        String[] words = call.split(" ");
        int[] numbers = new int[words.length - 1];
        for (int i = 0; i < numbers.length; i++) numbers[i] = Integer.parseInt(words[i + 1]);
        return subject.call(words[0], numbers);
    }

    /** All that can be told of an object, each answer behind its call; the object is used up by it. */
    static List<String> told(Subject subject) {
        List<String> calls = new ArrayList<>(List.of("torn", "again"));
        each(calls, "rule ", 6, "count ", 5, "wall ", 4, "outside ", 7, "kinds ", 5, "lets ", 4);
        for (int r = 0; r < 6; r++) each(calls, "room " + r + " ", 7);
        for (int w = 0; w < 5; w++) calls.add("ask " + w + " 0");
        each(calls, "runs 20 ", 4);
        for (int k = 0; k < 4; k++) {
            calls.addAll(List.of("read " + k + " " + k % 3 + " 0 3", "torn", "rule 1", "rule 4"));
        }
        for (int k = 0; k < 2; k++) {
            calls.add("back " + k);
            each(calls, "rule ", 6, "outside ", 7, "wall ", 4);
            for (int r = 0; r < 6; r++) calls.addAll(List.of("room " + r + " 1", "room " + r + " 2", "room " + r + " 3", "room " + r + " 4"));
        }
        calls.addAll(List.of("text", "fault", "rule 4", "outside 0"));
        List<String> answers = new ArrayList<>();
        for (String call : calls) answers.add(call + " -> " + call(subject, call));
        return answers;
    }

    private static void each(List<String> calls, Object... beforeAndMost) {
        for (int i = 0; i < beforeAndMost.length; i += 2) {
            for (int v = 0; v <= (Integer) beforeAndMost[i + 1]; v++) calls.add(beforeAndMost[i].toString() + v);
        }
    }

    /** Where the two differ, or nothing. */
    static String difference(Subject one, Subject other) {
        return one.call("fault") == other.call("fault") ? differenceButFault(one, other) : "their FAULTS";
    }

    static String differenceButFault(Subject one, Subject other) {
        List<String> a = told(one);
        List<String> b = told(other);
        for (int i = 0; i < a.size(); i++) if (!a.get(i).equals(b.get(i))) return a.get(i) + ", its twin " + b.get(i);
        return "";
    }

    static String name(String[] state) {
        return state == NEW ? "new" : state == RICH ? "rich" : state == FULL ? "full" : "plain";
    }
}
