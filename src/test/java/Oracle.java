import java.math.BigInteger;
import java.util.ArrayList;
import java.util.Arrays;
import java.util.HashMap;
import java.util.List;
import java.util.Map;

/**
 * The document once more, written for plainness alone and otherwise than the class:
 * what it answers is compared with what the class answers.
 */
final class Oracle {
    static final int BAD = -1, STATE = -2, FULL = -3, NONE = -4;

    static final class Rooms implements Cloneable {
        int n, hour, fuel, switchings;
        int[] warm = new int[6], loss = new int[6], gets = new int[6], mark = new int[6];
        Integer[] kind = new Integer[6];
        boolean[] on = new boolean[6];
        int[] wall = {2, 2, 2, 2, 2};
        int[] out = {10, 10, 10, 10, 10, 10, 10, 10};

        Rooms copy() {
            Rooms c = new Rooms();
            c.n = n; c.hour = hour; c.fuel = fuel; c.switchings = switchings;
            c.warm = warm.clone(); c.loss = loss.clone(); c.gets = gets.clone(); c.mark = mark.clone();
            c.kind = kind.clone(); c.on = on.clone(); c.wall = wall.clone(); c.out = out.clone();
            return c;
        }

        boolean is(int r) { return 0 <= r && r < n; }
        boolean isWall(int w) { return is(w) && is(w + 1); }

        int low(int r) {
            int plain = mark[r] - 2, lazy = plain - 3;
            return List.of(plain, plain + 1, lazy, lazy).get(kind[r]);
        }

        int high(int r) {
            int plain = mark[r] + 2, lazy = plain;
            return List.of(plain, plain - 1, lazy, lazy + 2).get(kind[r]);
        }

        Rooms after(int hours) {
            Rooms c = copy();
            for (int i = 0; i < hours; i++) c.step(c.out[c.hour % 8], false);
            return c;
        }

        void step(int outside, boolean blown) {
            for (int r = 0; r < n; r++) {
                if (kind[r] == null) continue;
                boolean was = on[r];
                if (warm[r] <= low(r)) on[r] = true;
                else if (warm[r] >= high(r)) on[r] = false;
                if (was != on[r]) switchings = Math.min(9999, switchings + 1);
            }
            int[] then = warm.clone();
            for (int w = 0; w + 1 < n; w++) {
                int goes = towardsNought(wall[w] * (warm[w] - warm[w + 1]));
                then[w] -= goes;
                then[w + 1] += goes;
            }
            for (int r = 0; r < n; r++) {
                then[r] -= towardsNought(loss[r] * (warm[r] - outside));
                if (on[r] && !blown) {
                    then[r] += gets[r];
                    fuel = Math.min(9999, fuel + 1);
                }
            }
            for (int r = 0; r < n; r++) warm[r] = Math.max(0, Math.min(99, then[r]));
            hour++;
        }

        static int towardsNought(int tenths) {
            int whole = Math.abs(tenths) / 10;
            return tenths < 0 ? -whole : whole;
        }

        int sum() { return Arrays.stream(warm, 0, n).sum(); }
        int coldest() { return Arrays.stream(warm, 0, n).min().orElseThrow(); }
        int bits() {
            int b = 0;
            for (int r = 0; r < n; r++) if (on[r]) b += 1 << r;
            return b;
        }
        int burnt(int hours) { return after(hours).fuel - fuel; }

        Rooms swapped(int a, int b) {
            Rooms c = copy();
            c.kind[a] = kind[b]; c.kind[b] = kind[a];
            c.mark[a] = mark[b]; c.mark[b] = mark[a];
            if (c.kind[a] == null) c.on[a] = false;
            if (c.kind[b] == null) c.on[b] = false;
            return c;
        }
    }

    private static final class Fault extends RuntimeException {
        final int code, place;
        Fault(int code, int place) { this.code = code; this.place = place; }
    }

    private record Token(char sort, String text, int place) { }

    private Rooms now = new Rooms();
    private final Rooms[] images = new Rooms[2];
    private final StringBuilder tape = new StringBuilder();
    private final List<int[]> seen = new ArrayList<>();
    private final Object[] sheets = new Object[4];
    private int fault, torn;

    private static boolean in(int v, int a, int b) { return a <= v && v <= b; }

    long call(String name, int... a) {
        switch (name) {
            case "feed": return feed(a[0]);
            case "end": return end(a[0]);
            case "text": return text();
            case "fault": return fault;
            case "rule": return rule(a[0]);
            case "room": return room(a[0], a[1]);
            case "wall": return now.isWall(a[0]) ? now.wall[a[0]] : BAD;
            case "outside": return in(a[0], 0, 7) ? now.out[a[0]] : BAD;
            case "alter": return alter(a[0], a[1], a[2]);
            case "fit": return fit(a[0], a[1], a[2]);
            case "strip": return strip(a[0]);
            case "mark": return mark(a[0], a[1]);
            case "lag": return lag(a[0], a[1]);
            case "sky": return sky(a[0], a[1]);
            case "hours": return hours(a[0]);
            case "runs": return runs(a[0], a[1]);
            case "ahead": return ahead(a[0], a[1], a[2]);
            case "cold": return cold(a[0], a[1]);
            case "again": return again();
            case "need": return need(a[0], a[1], a[2]);
            case "kind": return kind(a[0], a[1], a[2]);
            case "swap": return swap(a[0], a[1]);
            case "seal": return seal(a[0], a[1]);
            case "spare": return spare(a[0], a[1], a[2]);
            case "luck": return luck(a[0], a[1], a[2], a[3], a[4]);
            case "mean": return mean(a[0], a[1], a[2]);
            case "see": return see(a[0], a[1], a[2]);
            case "forget": return forget(a[0]);
            case "kinds": return kinds(a[0]);
            case "lets": return now.isWall(a[0]) ? lets(a[0]) : BAD;
            case "ask": return ask(a[0], a[1]);
            case "drift": return drift(a[0], a[1], a[2]);
            case "keep": return keep(a[0]);
            case "back": return back(a[0]);
            case "sheet": return sheet(a[0], a[1], a[2]);
            case "lay": return lay(a[0], a[1], a[2]);
            case "read": return read(a[0], a[1], a[2], a[3]);
            case "torn": return torn;
            case "count": return count(a[0]);
            default: throw new IllegalStateException(name);
        }
    }

    private int feed(int c) {
        if (!in(c, 0, 127)) return BAD;
        if (tape.length() == 160) return FULL;
        return tape.append((char) c).length();
    }

    private int end(int n) {
        int had = tape.length();
        if (!in(n, 0, had)) return BAD;
        tape.setLength(n);
        return had;
    }

    private int text() {
        String told = tape.toString();
        tape.setLength(0);
        try {
            Rooms draft = new Rooms();
            int lines = parse(tokens(told), told.length(), draft);
            now = draft;
            seen.clear();
            Arrays.fill(images, null);
            fault = 0;
            return lines;
        } catch (Fault f) {
            fault = f.code;
            return -10 - f.place;
        }
    }

    private static List<Token> tokens(String told) {
        List<Token> all = new ArrayList<>();
        java.util.regex.Matcher m = java.util.regex.Pattern.compile("[a-z]+|[0-9]+|;|[^ ]", java.util.regex.Pattern.DOTALL)
            .matcher(told);
        while (m.find()) {
            String t = m.group();
            char sort = t.matches("[a-z]+") ? 'a' : t.matches("[0-9]{1,2}") ? '0' : t.equals(";") ? ';' : '?';
            all.add(new Token(sort, t, m.start()));
        }
        all.add(new Token('.', "", told.length()));
        return all;
    }

    private static int parse(List<Token> all, int length, Rooms draft) {
        java.util.Iterator<Token> it = all.iterator();
        List<Integer> walls = new ArrayList<>();
        boolean out = false;
        int lines = 0;
        for (Token t = next(it); t.sort != '.'; t = next(it)) {
            if (t.sort != 'a') throw new Fault(2, t.place);
            int kind = List.of("plain", "quick", "lazy", "bent").indexOf(t.text);
            if (t.text.equals("room")) {
                if (draft.n == 6) throw new Fault(5, t.place);
                draft.warm[draft.n] = number(next(it), 99);
                draft.loss[draft.n] = number(next(it), 9);
                draft.gets[draft.n] = number(next(it), 9);
                draft.n++;
                semicolon(next(it));
            } else if (kind >= 0) {
                Token which = next(it);
                int r = number(which, 5);
                if (draft.kind[r] != null) throw new Fault(4, which.place);
                draft.kind[r] = kind;
                draft.mark[r] = number(next(it), 99);
                semicolon(next(it));
            } else if (t.text.equals("wall")) {
                Token which = next(it);
                int w = number(which, 4);
                if (walls.contains(w)) throw new Fault(4, which.place);
                walls.add(w);
                draft.wall[w] = number(next(it), 9);
                semicolon(next(it));
            } else if (t.text.equals("out")) {
                if (out) throw new Fault(4, t.place);
                out = true;
                int h = 0;
                for (Token v = it.next(); v.sort != ';'; v = it.next()) {
                    boolean figures = v.text.matches("[0-9]+");
                    if (v.sort == '.') throw new Fault(2, v.place);
                    if (v.sort == '?' && !figures) throw new Fault(1, v.place);
                    if (h == 8) throw new Fault(5, v.place);
                    if (v.sort == '?') throw new Fault(1, v.place);
                    draft.out[h++] = number(v, 99);
                }
            } else {
                throw new Fault(2, t.place);
            }
            lines++;
        }
        for (int w : walls) if (!draft.isWall(w)) throw new Fault(6, length);
        for (int r = 0; r < 6; r++) if (draft.kind[r] != null && !draft.is(r)) throw new Fault(6, length);
        return lines;
    }

    private static Token next(java.util.Iterator<Token> it) {
        Token t = it.next();
        if (t.sort == '?') throw new Fault(1, t.place);
        return t;
    }

    private static int number(Token t, int most) {
        if (t.sort != '0') throw new Fault(2, t.place);
        int v = Integer.parseInt(t.text);
        if (v > most) throw new Fault(3, t.place);
        return v;
    }

    private static void semicolon(Token t) {
        if (t.sort != ';') throw new Fault(2, t.place);
    }

    private int rule(int what) {
        if (!in(what, 0, 6)) return BAD;
        return new int[] {now.n, now.hour, now.fuel, now.switchings, now.sum(), now.bits(), now.out[now.hour % 8]}[what];
    }

    private int room(int r, int what) {
        if (!now.is(r) || !in(what, 0, 7)) return BAD;
        if (in(what, 3, 6) && now.kind[r] == null) return NONE;
        if (what == 0) return now.warm[r];
        if (what == 1) return now.loss[r];
        if (what == 2) return now.gets[r];
        if (what == 3) return now.kind[r];
        if (what == 4) return now.mark[r];
        if (what == 5) return now.low(r) + 10;
        if (what == 6) return now.high(r);
        return now.on[r] ? 1 : 0;
    }

    private int alter(int r, int what, int v) {
        if (!now.is(r) || !in(what, 0, 2) || !in(v, 0, what == 0 ? 99 : 9)) return BAD;
        int[] row = List.of(now.warm, now.loss, now.gets).get(what);
        int was = row[r];
        row[r] = v;
        return was;
    }

    private int fit(int r, int kind, int mark) {
        if (!now.is(r) || !in(kind, 0, 3) || !in(mark, 0, 99)) return BAD;
        int was = now.kind[r] == null ? 9 : now.kind[r];
        now.kind[r] = kind;
        now.mark[r] = mark;
        return was;
    }

    private int strip(int r) {
        if (!now.is(r)) return BAD;
        if (now.kind[r] == null) return STATE;
        int was = now.kind[r];
        now.kind[r] = null;
        now.on[r] = false;
        return was;
    }

    private int mark(int r, int v) {
        if (!now.is(r) || !in(v, 0, 99)) return BAD;
        if (now.kind[r] == null) return STATE;
        int was = now.mark[r];
        now.mark[r] = v;
        return was;
    }

    private int lag(int w, int v) {
        if (!now.isWall(w) || !in(v, 0, 9)) return BAD;
        int was = now.wall[w];
        now.wall[w] = v;
        return was;
    }

    private int sky(int h, int v) {
        if (!in(h, 0, 7) || !in(v, 0, 99)) return BAD;
        int was = now.out[h];
        now.out[h] = v;
        return was;
    }

    private int hours(int n) {
        if (!in(n, 0, 48)) return BAD;
        if (now.hour + n >= 1000) return FULL;
        int burnt = now.burnt(n);
        now = now.after(n);
        return burnt;
    }

    private int runs(int n, int what) {
        if (!in(n, 0, 60) || !in(what, 0, 4)) return BAD;
        Rooms then = now.after(n);
        if (what == 0) return then.fuel - now.fuel;
        if (what == 1) return then.switchings - now.switchings;
        if (what == 2) return then.sum();
        if (what == 4) return then.bits();
        if (now.n == 0) return NONE;
        int coldest = 99;
        for (int i = 0; i <= n; i++) coldest = Math.min(coldest, now.after(i).coldest());
        return coldest;
    }

    private int ahead(int r, int n, int what) {
        if (!now.is(r) || !in(n, 0, 60) || !in(what, 0, 1)) return BAD;
        Rooms then = now.after(n);
        return what == 0 ? then.warm[r] : then.on[r] ? 1 : 0;
    }

    private int cold(int r, int v) {
        if (!now.is(r) || !in(v, 0, 99)) return BAD;
        for (int i = 0; i <= 60; i++) if (now.after(i).warm[r] <= v) return i;
        return NONE;
    }

    private int again() {
        for (int i = 8; i <= 56; i += 8) {
            Rooms then = now.after(i);
            if (Arrays.equals(then.warm, 0, now.n, now.warm, 0, now.n) && then.bits() == now.bits()) return i;
        }
        return NONE;
    }

    private int need(int r, int n, int v) {
        if (!now.is(r) || !in(n, 1, 60) || !in(v, 0, 99)) return BAD;
        if (now.kind[r] == null) return STATE;
        for (int m = 0; m <= 99; m++) {
            Rooms c = now.copy();
            c.mark[r] = m;
            boolean warm = true;
            for (int i = 1; i <= n && warm; i++) {
                c = c.after(1);
                warm = c.warm[r] >= v;
            }
            if (warm) return m;
        }
        return NONE;
    }

    /** Of rows {which, how much} the one with the least how much, of several the least which. */
    private static int best(List<int[]> rows, int what) {
        int[] best = null;
        for (int[] row : rows) {
            if (best == null || row[1] < best[1] || row[1] == best[1] && row[0] < best[0]) best = row;
        }
        return best == null ? NONE : best[what];
    }

    private int kind(int r, int n, int what) {
        if (!now.is(r) || !in(n, 0, 60) || !in(what, 0, 1)) return BAD;
        if (now.kind[r] == null) return STATE;
        List<int[]> rows = new ArrayList<>();
        for (int k = 3; k >= 0; k--) {
            Rooms c = now.copy();
            c.kind[r] = k;
            rows.add(new int[] {k, c.burnt(n)});
        }
        return best(rows, what);
    }

    private int swap(int n, int what) {
        if (!in(n, 0, 60) || !in(what, 0, 1)) return BAD;
        List<int[]> rows = new ArrayList<>();
        for (int b = now.n - 1; b >= 0; b--) {
            for (int a = b - 1; a >= 0; a--) rows.add(new int[] {10 * a + b, now.swapped(a, b).burnt(n)});
        }
        rows.removeIf(row -> row[1] >= now.burnt(n));
        return best(rows, what);
    }

    private int seal(int n, int what) {
        if (!in(n, 0, 60) || !in(what, 0, 1)) return BAD;
        List<int[]> rows = new ArrayList<>();
        for (int w = 4; w >= 0; w--) {
            if (!now.isWall(w)) continue;
            Rooms c = now.copy();
            c.wall[w] = 0;
            rows.add(new int[] {w, c.burnt(n)});
        }
        rows.removeIf(row -> row[1] >= now.burnt(n));
        return best(rows, what);
    }

    private int spare(int n, int v, int what) {
        if (!in(n, 0, 60) || !in(v, 0, 99) || !in(what, 0, 1)) return BAD;
        List<int[]> rows = new ArrayList<>();
        for (int r = now.n - 1; r >= 0; r--) {
            if (now.kind[r] == null) continue;
            Rooms c = now.copy();
            c.kind[r] = null;
            c.on[r] = false;
            boolean warm = true;
            for (int i = 1; i <= n; i++) warm &= c.after(i).coldest() >= v;
            if (warm) rows.add(new int[] {r, c.burnt(n)});
        }
        return best(rows, what);
    }

    private interface Leaf { long of(Rooms then); }

    private long byFuse(int v, int n, int what, Leaf leaf) {
        BigInteger sum = BigInteger.ZERO;
        for (int ways = 0; ways < 1 << n; ways++) {
            Rooms c = now.copy();
            BigInteger weight = BigInteger.ONE;
            for (int i = 0; i < n; i++) {
                boolean blown = (ways >> i) % 2 == 1;
                weight = weight.multiply(BigInteger.valueOf(blown ? v : 10 - v));
                c.step(c.out[c.hour % 8], blown);
            }
            sum = sum.add(weight.multiply(BigInteger.valueOf(leaf.of(c))));
        }
        BigInteger whole = BigInteger.TEN.pow(n);
        BigInteger g = sum.gcd(whole);
        return (what == 0 ? sum.divide(g) : whole.divide(g)).longValueExact();
    }

    private long luck(int v, int r, int n, int w, int what) {
        if (!in(v, 0, 10) || !now.is(r) || !in(n, 0, 8) || !in(w, 0, 99) || !in(what, 0, 1)) return BAD;
        return byFuse(v, n, what, then -> then.warm[r] >= w ? 1 : 0);
    }

    private long mean(int v, int n, int what) {
        if (!in(v, 0, 10) || !in(n, 0, 8) || !in(what, 0, 1)) return BAD;
        return byFuse(v, n, what, then -> then.fuel - now.fuel);
    }

    private int see(int n, int r, int v) {
        if (!in(n, 0, 20) || !now.is(r) || !in(v, 0, 99)) return BAD;
        if (seen.size() == 6) return FULL;
        seen.add(new int[] {n, r, v});
        return seen.size();
    }

    private int forget(int n) {
        int had = seen.size();
        if (!in(n, 0, had)) return BAD;
        seen.subList(n, had).clear();
        return had;
    }

    private boolean asSeen(Rooms c) {
        return seen.stream().allMatch(s -> c.after(s[0]).warm[s[1]] == s[2]);
    }

    private int kinds(int r) {
        if (!now.is(r)) return BAD;
        if (now.kind[r] == null) return STATE;
        int bits = 0;
        for (int k = 0; k < 4; k++) {
            Rooms c = now.copy();
            c.kind[r] = k;
            if (asSeen(c)) bits += 1 << k;
        }
        return bits;
    }

    private Rooms with(int w, int lets) {
        Rooms c = now.copy();
        c.wall[w] = lets;
        return c;
    }

    private int lets(int w) {
        int bits = 0;
        for (int v = 0; v <= 9; v++) if (asSeen(with(w, v))) bits += 1 << v;
        return bits;
    }

    private int ask(int w, int what) {
        if (!now.isWall(w) || !in(what, 0, 1)) return BAD;
        int may = lets(w);
        List<int[]> rows = new ArrayList<>();
        for (int n = 0; n <= 20; n++) {
            for (int r = 0; r < now.n; r++) {
                Map<Integer, Integer> left = new HashMap<>();
                for (int v = 0; v <= 9; v++) {
                    if ((may >> v) % 2 == 1) left.merge(with(w, v).after(n).warm[r], 1, Integer::sum);
                }
                int worst = left.values().stream().mapToInt(x -> x).max().orElse(0);
                if (worst < Integer.bitCount(may)) rows.add(new int[] {10 * n + r, worst});
            }
        }
        return best(rows, what);
    }

    private int drift(int seed, int n, int what) {
        if (!in(n, 1, 60) || !in(what, 0, 1)) return BAD;
        if (now.n == 0) return STATE;
        Rooms c = now.copy();
        BigInteger s = BigInteger.valueOf(seed);
        for (int i = 0; i < n; i++) {
            s = s.multiply(BigInteger.valueOf(1103515245)).add(BigInteger.valueOf(12345)).mod(BigInteger.ONE.shiftLeft(32));
            int got = 0;
            for (int bit = 16; bit <= 30; bit++) if (s.testBit(bit)) got += 1 << bit - 16;
            c.step(got % 40, false);
        }
        return what == 0 ? c.fuel - now.fuel : c.sum();
    }

    private int keep(int k) {
        if (!in(k, 0, 1)) return BAD;
        int was = images[k] == null ? 0 : 1;
        images[k] = now.copy();
        return was;
    }

    private int back(int k) {
        if (!in(k, 0, 1)) return BAD;
        if (images[k] == null) return STATE;
        now = images[k].copy();
        return now.hour;
    }

    private int sheet(int k, int lane, int n) {
        if (!in(k, 0, 3) || !in(lane, 0, 2) || n > 40) return BAD;
        try {
            sheets[k] = lane == 0 ? new byte[n] : lane == 1 ? new short[n] : new int[n];
            return 1;
        } catch (NegativeArraySizeException e) {
            return -14;
        }
    }

    private int lay(int k, int i, int v) {
        if (!in(k, 0, 3)) return BAD;
        try {
            if (sheets[k] instanceof byte[] b) b[i] = (byte) v;
            else if (sheets[k] instanceof short[] s) s[i] = (short) v;
            else ((int[]) sheets[k])[i] = v;
            return 1;
        } catch (NullPointerException e) {
            return -11;
        } catch (ArrayIndexOutOfBoundsException e) {
            return -12;
        }
    }

    private int cell(int k, int lane, int i) {
        if (lane == 0) return ((byte[]) sheets[k])[i];
        if (lane == 1) return ((short[]) sheets[k])[i];
        return ((int[]) sheets[k])[i];
    }

    private int read(int k, int lane, int f, int n) {
        if (!in(k, 0, 3) || !in(lane, 0, 2) || !in(n, 0, 20)) return BAD;
        Rooms before = now.copy();
        int came = 0, found = 0;
        try {
            for (int i = 0; i < n; i++) {
                int r = cell(k, lane, f + 2 * i), m = cell(k, lane, f + 2 * i + 1);
                if (now.hour == 999 || mark(r, m) < 0) {
                    now = before;
                    return -20 - i;
                }
                now = now.after(1);
                came++;
            }
        } catch (NullPointerException e) {
            found = 1;
        } catch (ArrayIndexOutOfBoundsException e) {
            found = 2;
        } catch (ClassCastException e) {
            found = 3;
        }
        torn = found;
        return came;
    }

    private int count(int what) {
        if (what == 0) return seen.size();
        if (what == 1) return (int) Arrays.stream(images).filter(x -> x != null).count();
        if (what == 2) return tape.length();
        if (what == 3) return sheets[0] == null ? NONE : java.lang.reflect.Array.getLength(sheets[0]);
        if (what == 4) return Arrays.stream(now.loss, 0, now.n).sum();
        if (what == 5) return Arrays.stream(now.wall, 0, Math.max(0, now.n - 1)).sum();
        return BAD;
    }
}
