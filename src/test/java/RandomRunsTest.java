import java.util.ArrayList;
import java.util.Arrays;
import java.util.List;
import java.util.Map;
import java.util.Random;
import java.util.TreeMap;

/** Runs of calls by fixed seeds on the class and on the oracle: each answer must be the same. */
public final class RandomRunsTest {
    /** Of each call the kinds of its numbers: see number(). */
    private static final Map<String, String> CALLS = new TreeMap<>();

    static {
        String[] told = {
            "feed c", "end n", "text", "fault", "rule 6", "room r 7", "wall w", "outside h", "alter r 2 x", "fit r k m",
            "strip r", "mark r m", "lag w 9", "sky h m", "hours H", "runs L 4", "ahead r L 1", "cold r m", "again",
            "need r N m", "kind r L 1", "swap L 1", "seal L 1", "spare L m 1", "luck t r 8 m 1", "mean t 8 1", "see f r m",
            "forget s", "kinds r", "lets w", "ask w 1", "drift i N 1", "keep 1", "back 1", "sheet 3 2 C", "lay 3 c i",
            "read 3 2 c f", "torn", "count 5"};
        for (String line : told) {
            int gap = line.indexOf(' ');
            CALLS.put(gap < 0 ? line : line.substring(0, gap), gap < 0 ? "" : line.substring(gap + 1));
        }
    }

    private final Random random;
    private final Subject subject = new Subject();
    private final Oracle oracle = new Oracle();
    private final List<String> log = new ArrayList<>();
    private boolean wrong;

    private RandomRunsTest(long seed) {
        random = new Random(seed);
    }

    private long both(String name, int... a) {
        if (wrong || log.size() >= Subject.MOST_CALLS) return 0;
        long due = oracle.call(name, a);
        long got;
        try {
            got = subject.call(name, a);
        } catch (IllegalStateException e) {
            System.out.println(e.getMessage());
            got = Long.MIN_VALUE;
        }
        log.add(name + Arrays.toString(a) + " " + got);
        if (got != due) {
            wrong = true;
            System.out.println(log + " but due is " + due);
        }
        return due;
    }

    private int pick(int least, int most) {
        int die = random.nextInt(100);
        if (die == 0) return random.nextBoolean() ? Integer.MIN_VALUE : Integer.MAX_VALUE;
        if (die <= 2) return least - 1;
        if (die <= 4) return most + 1;
        if (die <= 7) return most;
        return least + random.nextInt(Math.max(1, most - least + 1));
    }

    private int number(char sort) {
        int rooms = (int) oracle.call("rule", 0);
        switch (sort) {
            case 'r': return pick(0, rooms - 1);
            case 'w': return pick(0, rooms - 2);
            case 'h': return pick(0, 7);
            case 'm': return random.nextInt(4) == 0 ? pick(0, 99) : pick(0, 30);
            case 'x': return random.nextBoolean() ? pick(0, 9) : pick(0, 99);
            case 'k': return pick(0, 3);
            case 'H': return pick(0, random.nextInt(3) == 0 ? 48 : 9);
            case 'L': return pick(0, 60);
            case 'N': return pick(1, 60);
            case 't': return pick(0, 10);
            case 'f': return pick(0, 20);
            case 's': return pick(0, (int) oracle.call("count", 0));
            case 'n': return pick(0, (int) oracle.call("count", 2));
            case 'C': return pick(0, 40);
            case 'c': return random.nextInt(3) == 0 ? pick(0, 127) : pick(0, 8);
            case 'i': return random.nextBoolean() ? random.nextInt() : pick(0, 30);
            default: return pick(0, sort - '0');
        }
    }

    private void anyCall() {
        List<String> names = new ArrayList<>(CALLS.keySet());
        String name = names.get(random.nextInt(names.size()));
        if (name.equals("text") && random.nextInt(4) > 0) return;
        String kinds = CALLS.get(name).replace(" ", "");
        int[] a = new int[kinds.length()];
        for (int i = 0; i < a.length; i++) a[i] = number(kinds.charAt(i));
        both(name, a);
    }

    private String numberText(int most) {
        int v = random.nextInt(most + 1);
        return v < 10 && random.nextInt(12) == 0 ? "0" + v : "" + v;
    }

    private String goodText() {
        int rooms = random.nextInt(10) == 0 ? random.nextInt(2) : 2 + random.nextInt(5);
        List<String> lines = new ArrayList<>();
        for (int r = 0; r < rooms; r++) lines.add("room " + numberText(30) + " " + numberText(5) + " " + numberText(9));
        for (int r = 0; r < rooms; r++) {
            String kind = List.of("plain", "quick", "lazy", "bent").get(random.nextInt(4));
            if (random.nextInt(4) > 0) lines.add(kind + " " + r + " " + numberText(30));
        }
        for (int w = 0; w + 1 < rooms; w++) if (random.nextInt(3) == 0) lines.add("wall " + w + " " + numberText(9));
        if (random.nextInt(3) > 0) {
            StringBuilder out = new StringBuilder("out");
            for (int h = random.nextInt(9); h > 0; h--) out.append(' ').append(numberText(30));
            lines.add(out.toString());
        }
        java.util.Collections.shuffle(lines, random);
        StringBuilder all = new StringBuilder();
        for (String line : lines) {
            if (all.length() + line.length() + 2 <= 150) all.append(line).append(random.nextInt(8) == 0 ? " ; " : ";");
        }
        return all.toString();
    }

    private String spoilt(String text) {
        StringBuilder s = new StringBuilder(text);
        String[] bits = {" ", ";", "1", "23", "456", "room", "out", "wall", "lazy", "q", "$", "A", "\t", "out;", "wall 0 1;",
            "plain 5 1;", "room 1 1 1;", " 7 7 7 7 7 7", "99 ", "lazy 0 100;"};
        for (int i = 1 + random.nextInt(2); i > 0; i--) {
            int at = random.nextInt(s.length() + 1);
            int behind = Math.min(s.length(), at + random.nextInt(3));
            if (random.nextBoolean()) s.insert(at, bits[random.nextInt(bits.length)]);
            else s.delete(at, behind);
        }
        return s.toString();
    }

    private void tell(String text) {
        for (char c : text.toCharArray()) both("feed", (int) c);
        both("text");
        both("fault");
    }

    private void lookAll() {
        for (int i = 0; i <= 6; i++) both("rule", i);
        for (int r = 0; r < oracle.call("rule", 0); r++) for (int i = 0; i <= 7; i++) both("room", r, i);
        for (int w = 0; w < 5; w++) both("wall", w);
        for (int h = 0; h < 8; h++) both("outside", h);
        for (int i = 0; i <= 5; i++) both("count", i);
    }

    /** Feels what would be felt if a wall let something else through, so that few answers are left, but some. */
    private void feel() {
        int rooms = (int) oracle.call("rule", 0);
        if (rooms < 2) return;
        int w = random.nextInt(rooms - 1);
        int was = (int) both("lag", w, random.nextInt(10));
        int n = random.nextInt(random.nextBoolean() ? 4 : 21);
        int r = random.nextInt(rooms);
        int v = (int) both("ahead", r, n, 0);
        both("lag", w, was);
        both("see", n, r, v);
        both("lets", w);
        both("ask", w, 0);
        both("ask", w, 1);
        for (int i = 0; i < rooms; i++) both("kinds", i);
    }

    private void readSheet() {
        int rooms = (int) oracle.call("rule", 0);
        int k = random.nextInt(4);
        int lane = random.nextInt(3);
        int cells = random.nextInt(14);
        both("sheet", k, lane, cells);
        for (int i = 0; i < cells; i++) {
            int v = i % 2 == 0 ? random.nextInt(Math.max(1, rooms)) : random.nextInt(40);
            if (random.nextInt(9) == 0) v = random.nextInt(400) - 100;
            if (random.nextInt(9) == 0) v += 65536;
            both("lay", k, i, v);
        }
        both("read", k, lane, random.nextInt(2), random.nextInt(8));
        both("torn");
        both("rule", 1);
        both("rule", 4);
    }

    private boolean mixedRun() {
        tell(goodText());
        if (random.nextInt(6) == 0) for (int i = 0; i < 20; i++) both("hours", 48);
        for (int i = 0; i < 400 && log.size() < Subject.MOST_CALLS && !wrong; i++) {
            int die = random.nextInt(60);
            if (die == 0) tell(random.nextBoolean() ? goodText() : spoilt(goodText()));
            else if (die <= 2) feel();
            else if (die == 3) readSheet();
            else anyCall();
        }
        return !wrong;
    }

    private boolean textRun() {
        tell(spoilt(goodText()));
        both("count", 2);
        lookAll();
        return !wrong;
    }

    public static void main(String[] args) {
        int failed = 0;
        int mixed = Integer.getInteger("mixed.runs", 600);
        for (int seed = 0; seed < mixed && failed < 5; seed++) if (!new RandomRunsTest(seed).mixedRun()) failed++;
        for (int seed = 0; seed < 20000 && failed < 5; seed++) if (!new RandomRunsTest(seed).textRun()) failed++;
        System.out.println(failed == 0 ? "all random runs agree" : failed + " random runs disagree");
        if (failed != 0) System.exit(1);
    }
}
