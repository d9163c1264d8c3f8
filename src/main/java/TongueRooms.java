/**
 * Rooms in a row, heated by heaters that tongues of two metals switch.
 * What each call promises stands in ../shared/DOC.md; every row is made by the
 * constructor and used again, so that no call makes an object.
 */
public final class TongueRooms {
    public static final int BAD = -1, STATE = -2, FULL = -3, NONE = -4;

    private static final int ROOMS = 6;
    private static final int WALLS = 5;
    private static final int DAY = 8;
    private static final int WARMEST = 99;
    private static final int TOP_MARK = 99;
    private static final int TOP_FIGURE = 9;
    private static final int PLENTY = 9999;
    private static final int LAST_HOUR = 999;
    private static final int LONG_RUN = 60;
    private static final int LONG_FEEL = 20;
    private static final int LONG_FUSE = 8;
    private static final int IMAGES = 2;
    private static final int SHEETS = 4;
    private static final int LANES = 3;
    private static final int TRIALS = 10;

    private static final int NO_TONGUE = -1;
    private static final int LAST_KIND = 3;
    private static final int[] LOW_BY_KIND = {-2, -1, -5, -5};
    private static final int[] HIGH_BY_KIND = {2, 1, 2, 4};

    private static final int NULL_FOUND = 1;
    private static final int INDEX_FOUND = 2;
    private static final int CAST_FOUND = 3;
    private static final int SIZE_FOUND = 4;

    private final House now = new House();
    private final House[] images = new House[IMAGES];
    private final boolean[] kept = new boolean[IMAGES];
    private final House[] trials = new House[TRIALS];
    private final Sheet[] sheets = new Sheet[SHEETS];
    private final Feelings feelings = new Feelings();
    private final Teller teller = new Teller();
    private int tornFault;

    public TongueRooms() {
        for (int i = 0; i < IMAGES; i++) {
            images[i] = new House();
        }
        for (int i = 0; i < TRIALS; i++) {
            trials[i] = new House();
        }
        for (int i = 0; i < SHEETS; i++) {
            sheets[i] = new Sheet();
        }
    }

    // ---- the text, what there is

    public int feed(int c) {
        if (!within(c, 0, 127)) {
            return BAD;
        }
        return teller.put(c) ? teller.length : FULL;
    }

    public int end(int n) {
        int had = teller.length;
        if (!within(n, 0, had)) {
            return BAD;
        }
        teller.length = n;
        return had;
    }

    public int text() {
        boolean taken = teller.tell();
        teller.length = 0;
        if (!taken) {
            return -10 - teller.faultPlace;
        }
        now.copyFrom(teller.draft);
        feelings.size = 0;
        for (int k = 0; k < IMAGES; k++) {
            kept[k] = false;
        }
        return teller.lines;
    }

    public int fault() {
        return teller.faultFound;
    }

    public int rule(int what) {
        switch (what) {
            case 0: return now.rooms;
            case 1: return now.hour;
            case 2: return now.fuel;
            case 3: return now.switchings;
            case 4: return now.warmthOfAll();
            case 5: return now.onBits;
            case 6: return now.skyNow();
            default: return BAD;
        }
    }

    public int room(int r, int what) {
        if (!now.hasRoom(r) || !within(what, 0, 7)) {
            return BAD;
        }
        switch (what) {
            case 0: return now.warmth[r];
            case 1: return now.loss[r];
            case 2: return now.gain[r];
            case 7: return now.isOn(r) ? 1 : 0;
            default: return now.hasTongue(r) ? ofTongue(r, what) : NONE;
        }
    }

    private int ofTongue(int r, int what) {
        switch (what) {
            case 3: return now.tongue[r];
            case 4: return now.notch[r];
            case 5: return 10 + now.lowOf(r);
            default: return now.highOf(r);
        }
    }

    public int wall(int w) {
        return now.hasWall(w) ? now.leak[w] : BAD;
    }

    public int outside(int h) {
        return within(h, 0, DAY - 1) ? now.skyAt[h] : BAD;
    }

    // ---- what is changed

    public int alter(int r, int what, int v) {
        if (!now.hasRoom(r) || !within(what, 0, 2)) {
            return BAD;
        }
        if (!within(v, 0, what == 0 ? WARMEST : TOP_FIGURE)) {
            return BAD;
        }
        int[] row = what == 0 ? now.warmth : what == 1 ? now.loss : now.gain;
        return exchange(row, r, v);
    }

    public int fit(int r, int kind, int mark) {
        if (!now.hasRoom(r) || !within(kind, 0, LAST_KIND) || !within(mark, 0, TOP_MARK)) {
            return BAD;
        }
        int had = now.hasTongue(r) ? now.tongue[r] : 9;
        now.tongue[r] = kind;
        now.notch[r] = mark;
        return had;
    }

    public int strip(int r) {
        if (!now.hasRoom(r)) {
            return BAD;
        }
        if (!now.hasTongue(r)) {
            return STATE;
        }
        int had = now.tongue[r];
        now.takeTongue(r);
        return had;
    }

    public int mark(int r, int v) {
        int refused = now.markRefused(r, v);
        return refused != 0 ? refused : exchange(now.notch, r, v);
    }

    public int lag(int w, int v) {
        if (!now.hasWall(w) || !within(v, 0, TOP_FIGURE)) {
            return BAD;
        }
        return exchange(now.leak, w, v);
    }

    public int sky(int h, int v) {
        if (!within(h, 0, DAY - 1) || !within(v, 0, WARMEST)) {
            return BAD;
        }
        return exchange(now.skyAt, h, v);
    }

    // ---- hours

    public int hours(int n) {
        if (!within(n, 0, 48)) {
            return BAD;
        }
        if (now.hour + n > LAST_HOUR) {
            return FULL;
        }
        return now.passHours(n);
    }

    public int runs(int n, int what) {
        if (!within(n, 0, LONG_RUN) || !within(what, 0, 4)) {
            return BAD;
        }
        if (what == 3) {
            return now.rooms == 0 ? NONE : coldestWithin(n);
        }
        House h = copyOfNow();
        int burnt = h.passHours(n);
        switch (what) {
            case 0: return burnt;
            case 1: return h.switchings - now.switchings;
            case 2: return h.warmthOfAll();
            default: return h.onBits;
        }
    }

    private int coldestWithin(int n) {
        House h = copyOfNow();
        int coldest = h.coldestNow();
        for (int i = 0; i < n; i++) {
            h.passHour();
            coldest = Math.min(coldest, h.coldestNow());
        }
        return coldest;
    }

    public int ahead(int r, int n, int what) {
        if (!now.hasRoom(r) || !within(n, 0, LONG_RUN) || !within(what, 0, 1)) {
            return BAD;
        }
        House h = copyOfNow();
        h.passHours(n);
        if (what == 0) {
            return h.warmth[r];
        }
        return h.isOn(r) ? 1 : 0;
    }

    public int cold(int r, int v) {
        if (!now.hasRoom(r) || !within(v, 0, WARMEST)) {
            return BAD;
        }
        House h = copyOfNow();
        for (int n = 0; n <= LONG_RUN; n++) {
            if (h.warmth[r] <= v) {
                return n;
            }
            h.passHour();
        }
        return NONE;
    }

    public int again() {
        House h = copyOfNow();
        for (int n = DAY; n <= 7 * DAY; n += DAY) {
            h.passHours(DAY);
            if (h.isLike(now)) {
                return n;
            }
        }
        return NONE;
    }

    // ---- what is best

    public int need(int r, int n, int v) {
        if (!now.hasRoom(r) || !within(n, 1, LONG_RUN) || !within(v, 0, WARMEST)) {
            return BAD;
        }
        if (!now.hasTongue(r)) {
            return STATE;
        }
        for (int m = 0; m <= TOP_MARK; m++) {
            House h = copyOfNow();
            h.notch[r] = m;
            if (h.staysWarm(r, n, v)) {
                return m;
            }
        }
        return NONE;
    }

    public int kind(int r, int n, int what) {
        if (!now.hasRoom(r) || !within(n, 0, LONG_RUN) || !within(what, 0, 1)) {
            return BAD;
        }
        if (!now.hasTongue(r)) {
            return STATE;
        }
        int best = NONE;
        int least = PLENTY + 1;
        for (int kind = 0; kind <= LAST_KIND; kind++) {
            House h = copyOfNow();
            h.tongue[r] = kind;
            int burnt = h.passHours(n);
            if (burnt < least) {
                least = burnt;
                best = kind;
            }
        }
        return chosen(best, least, what);
    }

    public int swap(int n, int what) {
        if (!within(n, 0, LONG_RUN) || !within(what, 0, 1)) {
            return BAD;
        }
        int best = NONE;
        int least = copyOfNow().passHours(n);
        for (int a = 0; a < now.rooms; a++) {
            for (int b = a + 1; b < now.rooms; b++) {
                House h = copyOfNow();
                h.exchangeTongues(a, b);
                int burnt = h.passHours(n);
                if (burnt < least) {
                    least = burnt;
                    best = 10 * a + b;
                }
            }
        }
        return chosen(best, least, what);
    }

    public int seal(int n, int what) {
        if (!within(n, 0, LONG_RUN) || !within(what, 0, 1)) {
            return BAD;
        }
        int best = NONE;
        int least = copyOfNow().passHours(n);
        for (int w = 0; w < now.rooms - 1; w++) {
            House h = copyOfNow();
            h.leak[w] = 0;
            int burnt = h.passHours(n);
            if (burnt < least) {
                least = burnt;
                best = w;
            }
        }
        return chosen(best, least, what);
    }

    public int spare(int n, int v, int what) {
        if (!within(n, 0, LONG_RUN) || !within(v, 0, WARMEST) || !within(what, 0, 1)) {
            return BAD;
        }
        int best = NONE;
        int least = PLENTY + 1;
        for (int r = 0; r < now.rooms; r++) {
            if (!now.hasTongue(r)) {
                continue;
            }
            House h = copyOfNow();
            h.takeTongue(r);
            int burnt = h.burntAllWarm(n, v);
            if (burnt != NONE && burnt < least) {
                least = burnt;
                best = r;
            }
        }
        return chosen(best, least, what);
    }

    // ---- a fuse

    public long luck(int v, int r, int n, int w, int what) {
        if (!fuseIsAsTold(v, n, what) || !now.hasRoom(r) || !within(w, 0, WARMEST)) {
            return BAD;
        }
        trials[0].copyFrom(now);
        return ofFraction(weighed(0, n, v, r, w), tenTo(n), what);
    }

    public long mean(int v, int n, int what) {
        if (!fuseIsAsTold(v, n, what)) {
            return BAD;
        }
        trials[0].copyFrom(now);
        return ofFraction(weighed(0, n, v, NONE, 0), tenTo(n), what);
    }

    private static boolean fuseIsAsTold(int v, int n, int what) {
        return within(v, 0, 10) && within(n, 0, LONG_FUSE) && within(what, 0, 1);
    }

    /** What comes out behind n hours, summed over all ways the fuse may go, each as often as it comes out of 10^n. */
    private long weighed(int depth, int n, int v, int r, int w) {
        House before = trials[depth];
        if (depth >= n || depth + 1 >= TRIALS) {
            return outcome(before, r, w);
        }
        long sum = 0;
        for (int blown = 0; blown <= 1; blown++) {
            int weight = blown == 1 ? v : 10 - v;
            if (weight > 0) {
                House after = trials[depth + 1];
                after.copyFrom(before);
                after.passHourBy(after.skyNow(), blown == 1);
                sum += weight * weighed(depth + 1, n, v, r, w);
            }
        }
        return sum;
    }

    /** Of a room whether it is warm enough; where there is none, what is burnt. */
    private int outcome(House h, int r, int w) {
        if (!h.hasRoom(r)) {
            return h.fuel - now.fuel;
        }
        return h.warmth[r] >= w ? 1 : 0;
    }

    private static long tenTo(int n) {
        long power = 1;
        for (int i = 0; i < n; i++) {
            power *= 10;
        }
        return power;
    }

    private static long ofFraction(long above, long below, int what) {
        long divisor = commonDivisor(above, below);
        return what == 0 ? above / divisor : below / divisor;
    }

    private static long commonDivisor(long a, long b) {
        for (int i = 0; i < 200 && b != 0; i++) {
            long rest = a % b;
            a = b;
            b = rest;
        }
        return Math.max(a, 1);
    }

    // ---- what is felt

    public int see(int n, int r, int v) {
        if (!within(n, 0, LONG_FEEL) || !now.hasRoom(r) || !within(v, 0, WARMEST)) {
            return BAD;
        }
        return feelings.put(n, r, v) ? feelings.size : FULL;
    }

    public int forget(int n) {
        int had = feelings.size;
        if (!within(n, 0, had)) {
            return BAD;
        }
        feelings.size = n;
        return had;
    }

    public int kinds(int r) {
        if (!now.hasRoom(r)) {
            return BAD;
        }
        if (!now.hasTongue(r)) {
            return STATE;
        }
        int bits = 0;
        for (int kind = 0; kind <= LAST_KIND; kind++) {
            House h = copyOfNow();
            h.tongue[r] = kind;
            if (feelings.holdIn(h)) {
                bits |= 1 << kind;
            }
        }
        return bits;
    }

    public int lets(int w) {
        return now.hasWall(w) ? leaksAsFelt(w) : BAD;
    }

    private int leaksAsFelt(int w) {
        int bits = 0;
        for (int leak = 0; leak <= TOP_FIGURE; leak++) {
            House h = copyOfNow();
            h.leak[w] = leak;
            if (feelings.holdIn(h)) {
                bits |= 1 << leak;
            }
        }
        return bits;
    }

    public int ask(int w, int what) {
        if (!now.hasWall(w) || !within(what, 0, 1)) {
            return BAD;
        }
        int size = layOutTrials(w, leaksAsFelt(w));
        int best = NONE;
        int fewest = size;
        for (int n = 0; n <= LONG_FEEL; n++) {
            for (int r = 0; r < now.rooms; r++) {
                int left = mostAlike(size, r);
                if (left < fewest) {
                    fewest = left;
                    best = 10 * n + r;
                }
            }
            for (int i = 0; i < size; i++) {
                trials[i].passHour();
            }
        }
        return chosen(best, fewest, what);
    }

    /** The first trials are the rooms by each leak of the bits: how many they are. */
    private int layOutTrials(int w, int bits) {
        int size = 0;
        for (int leak = 0; leak <= TOP_FIGURE && size < TRIALS; leak++) {
            if ((bits >> leak & 1) == 1) {
                trials[size].copyFrom(now);
                trials[size].leak[w] = leak;
                size++;
            }
        }
        return size;
    }

    private int mostAlike(int size, int r) {
        int most = 0;
        for (int i = 0; i < size; i++) {
            int alike = 0;
            for (int j = 0; j < size; j++) {
                if (trials[i].warmth[r] == trials[j].warmth[r]) {
                    alike++;
                }
            }
            most = Math.max(most, alike);
        }
        return most;
    }

    // ---- by a seed

    public int drift(int seed, int n, int what) {
        if (!within(n, 1, LONG_RUN) || !within(what, 0, 1)) {
            return BAD;
        }
        if (now.rooms == 0) {
            return STATE;
        }
        House h = copyOfNow();
        int s = seed;
        for (int i = 0; i < n; i++) {
            s = s * 1103515245 + 12345;
            h.passHourBy((s >>> 16 & 0x7fff) % 40, false);
        }
        return what == 0 ? h.fuel - now.fuel : h.warmthOfAll();
    }

    // ---- images, sheets

    public int keep(int k) {
        if (!within(k, 0, IMAGES - 1)) {
            return BAD;
        }
        int was = kept[k] ? 1 : 0;
        images[k].copyFrom(now);
        kept[k] = true;
        return was;
    }

    public int back(int k) {
        if (!within(k, 0, IMAGES - 1)) {
            return BAD;
        }
        if (!kept[k]) {
            return STATE;
        }
        now.copyFrom(images[k]);
        return now.hour;
    }

    public int sheet(int k, int lane, int n) {
        if (!within(k, 0, SHEETS - 1) || !within(lane, 0, LANES - 1) || n > Sheet.MOST_CELLS) {
            return BAD;
        }
        if (n < 0) {
            return -10 - SIZE_FOUND;
        }
        sheets[k].renew(lane, n);
        return 1;
    }

    public int lay(int k, int i, int v) {
        if (!within(k, 0, SHEETS - 1)) {
            return BAD;
        }
        Sheet s = sheets[k];
        int found = s.faultAt(s.laneOf, i);
        if (found != 0) {
            return -10 - found;
        }
        s.put(i, v);
        return 1;
    }

    public int read(int k, int lane, int f, int n) {
        if (!within(k, 0, SHEETS - 1) || !within(lane, 0, LANES - 1) || !within(n, 0, 20)) {
            return BAD;
        }
        Sheet s = sheets[k];
        House h = copyOfNow();
        int found = 0;
        int came = 0;
        for (int i = 0; i < n && found == 0; i++) {
            int cell = f + 2 * i;
            found = s.faultAtPair(lane, cell);
            if (found == 0) {
                if (!h.takesMarkAndHour(s.cells[cell], s.cells[cell + 1])) {
                    return -20 - i;
                }
                came++;
            }
        }
        now.copyFrom(h);
        tornFault = found;
        return came;
    }

    public int torn() {
        return tornFault;
    }

    public int count(int what) {
        switch (what) {
            case 0: return feelings.size;
            case 1: return (kept[0] ? 1 : 0) + (kept[1] ? 1 : 0);
            case 2: return teller.length;
            case 3: return sheets[0].isThere() ? sheets[0].size : NONE;
            case 4: return sumOf(now.loss, now.rooms);
            case 5: return sumOf(now.leak, now.rooms - 1);
            default: return BAD;
        }
    }

    // ---- what several calls use

    private static boolean within(int v, int least, int most) {
        return v >= least && v <= most;
    }

    private static int sumOf(int[] row, int n) {
        int sum = 0;
        for (int i = 0; i < n && i < row.length; i++) {
            sum += row[i];
        }
        return sum;
    }

    private static int exchange(int[] row, int i, int v) {
        int was = row[i];
        row[i] = v;
        return was;
    }

    private static int chosen(int best, int how, int what) {
        if (best == NONE) {
            return NONE;
        }
        return what == 0 ? best : how;
    }

    private House copyOfNow() {
        trials[0].copyFrom(now);
        return trials[0];
    }

    /** All that an image keeps: the rooms with their tongues, walls, the outside, what was counted. */
    private static final class House {
        int rooms;
        int onBits;
        int hour;
        int fuel;
        int switchings;
        final int[] warmth = new int[ROOMS];
        final int[] loss = new int[ROOMS];
        final int[] gain = new int[ROOMS];
        final int[] tongue = new int[ROOMS];
        final int[] notch = new int[ROOMS];
        final int[] leak = new int[WALLS];
        final int[] skyAt = new int[DAY];

        House() {
            empty();
        }

        void empty() {
            rooms = 0;
            onBits = 0;
            hour = 0;
            fuel = 0;
            switchings = 0;
            for (int r = 0; r < ROOMS; r++) {
                tongue[r] = NO_TONGUE;
            }
            for (int w = 0; w < WALLS; w++) {
                leak[w] = 2;
            }
            for (int h = 0; h < DAY; h++) {
                skyAt[h] = 10;
            }
        }

        void copyFrom(House other) {
            rooms = other.rooms;
            onBits = other.onBits;
            hour = other.hour;
            fuel = other.fuel;
            switchings = other.switchings;
            System.arraycopy(other.warmth, 0, warmth, 0, ROOMS);
            System.arraycopy(other.loss, 0, loss, 0, ROOMS);
            System.arraycopy(other.gain, 0, gain, 0, ROOMS);
            System.arraycopy(other.tongue, 0, tongue, 0, ROOMS);
            System.arraycopy(other.notch, 0, notch, 0, ROOMS);
            System.arraycopy(other.leak, 0, leak, 0, WALLS);
            System.arraycopy(other.skyAt, 0, skyAt, 0, DAY);
        }

        boolean hasRoom(int r) {
            return r >= 0 && r < rooms;
        }

        boolean hasWall(int w) {
            return w >= 0 && w < rooms - 1;
        }

        boolean hasTongue(int r) {
            return tongue[r] != NO_TONGUE;
        }

        boolean isOn(int r) {
            return (onBits >> r & 1) == 1;
        }

        int lowOf(int r) {
            return notch[r] + LOW_BY_KIND[tongue[r]];
        }

        int highOf(int r) {
            return notch[r] + HIGH_BY_KIND[tongue[r]];
        }

        int skyNow() {
            return skyAt[hour % DAY];
        }

        int warmthOfAll() {
            return sumOf(warmth, rooms);
        }

        int coldestNow() {
            int coldest = WARMEST;
            for (int r = 0; r < rooms; r++) {
                coldest = Math.min(coldest, warmth[r]);
            }
            return coldest;
        }

        boolean isLike(House other) {
            for (int r = 0; r < rooms; r++) {
                if (warmth[r] != other.warmth[r]) {
                    return false;
                }
            }
            return onBits == other.onBits;
        }

        /** Why a mark can not be set there: BAD, STATE, or 0 if it can. */
        int markRefused(int r, int v) {
            if (!hasRoom(r) || !within(v, 0, TOP_MARK)) {
                return BAD;
            }
            return hasTongue(r) ? 0 : STATE;
        }

        boolean takesMarkAndHour(int r, int v) {
            if (markRefused(r, v) != 0 || hour >= LAST_HOUR) {
                return false;
            }
            notch[r] = v;
            passHour();
            return true;
        }

        void takeTongue(int r) {
            tongue[r] = NO_TONGUE;
            onBits &= ~(1 << r);
        }

        void exchangeTongues(int a, int b) {
            tongue[a] = exchange(tongue, b, tongue[a]);
            notch[a] = exchange(notch, b, notch[a]);
            if (!hasTongue(a)) {
                takeTongue(a);
            }
            if (!hasTongue(b)) {
                takeTongue(b);
            }
        }

        /** n hours go: what is burnt. */
        int passHours(int n) {
            int before = fuel;
            for (int i = 0; i < n; i++) {
                passHour();
            }
            return fuel - before;
        }

        void passHour() {
            passHourBy(skyNow(), false);
        }

        void passHourBy(int sky, boolean blown) {
            switchAll();
            int fromLeft = 0;
            for (int r = 0; r < rooms; r++) {
                // room r + 1 is still as it was ahead of the hour: all goes at once
                int toRight = hasWall(r) ? leak[r] * (warmth[r] - warmth[r + 1]) / 10 : 0;
                int lost = loss[r] * (warmth[r] - sky) / 10;
                int got = isOn(r) && !blown ? burn(r) : 0;
                int then = warmth[r] + fromLeft - toRight - lost + got;
                warmth[r] = Math.max(0, Math.min(WARMEST, then));
                fromLeft = toRight;
            }
            hour++;
        }

        int burn(int r) {
            fuel = Math.min(PLENTY, fuel + 1);
            return gain[r];
        }

        void switchAll() {
            for (int r = 0; r < rooms; r++) {
                if (hasTongue(r)) {
                    boolean turns = isOn(r) ? warmth[r] >= highOf(r) : warmth[r] <= lowOf(r);
                    if (turns) {
                        onBits ^= 1 << r;
                        switchings = Math.min(PLENTY, switchings + 1);
                    }
                }
            }
        }

        boolean staysWarm(int r, int n, int v) {
            for (int i = 0; i < n; i++) {
                passHour();
                if (warmth[r] < v) {
                    return false;
                }
            }
            return true;
        }

        /** What is burnt in n hours; NONE if a room is less than v warm behind one of them. */
        int burntAllWarm(int n, int v) {
            int before = fuel;
            for (int i = 0; i < n; i++) {
                passHour();
                if (coldestNow() < v) {
                    return NONE;
                }
            }
            return fuel - before;
        }
    }

    /** What was felt: behind how many hours, in which room, how warm. */
    private static final class Feelings {
        private static final int MOST = 6;
        final int[] behind = new int[MOST];
        final int[] where = new int[MOST];
        final int[] felt = new int[MOST];
        int size;

        boolean put(int n, int r, int v) {
            if (size >= MOST) {
                return false;
            }
            behind[size] = n;
            where[size] = r;
            felt[size] = v;
            size++;
            return true;
        }

        /** Whether all comes so in a house, whose hours go for it. */
        boolean holdIn(House h) {
            int last = lastHour();
            for (int n = 0; n <= last; n++) {
                if (!holdAt(n, h)) {
                    return false;
                }
                h.passHour();
            }
            return true;
        }

        private int lastHour() {
            int last = 0;
            for (int i = 0; i < size; i++) {
                last = Math.max(last, behind[i]);
            }
            return last;
        }

        private boolean holdAt(int n, House h) {
            for (int i = 0; i < size; i++) {
                if (behind[i] == n && h.warmth[where[i]] != felt[i]) {
                    return false;
                }
            }
            return true;
        }
    }

    /** A row of cells of a lane, or nothing. */
    private static final class Sheet {
        static final int MOST_CELLS = 40;
        private static final int NO_LANE = -1;
        int laneOf = NO_LANE;
        int size;
        final int[] cells = new int[MOST_CELLS];

        boolean isThere() {
            return laneOf != NO_LANE;
        }

        void renew(int lane, int n) {
            laneOf = lane;
            size = n;
            for (int i = 0; i < n && i < MOST_CELLS; i++) {
                cells[i] = 0;
            }
        }

        void put(int i, int v) {
            cells[i] = laneOf == 0 ? (byte) v : laneOf == 1 ? (short) v : v;
        }

        /** What the machine would find if a cell were touched in a row of that lane; 0 if nothing. */
        int faultAt(int lane, int i) {
            if (!isThere()) {
                return NULL_FOUND;
            }
            if (lane != laneOf) {
                return CAST_FOUND;
            }
            return i >= 0 && i < size ? 0 : INDEX_FOUND;
        }

        int faultAtPair(int lane, int i) {
            int found = faultAt(lane, i);
            return found != 0 ? found : faultAt(lane, i + 1);
        }
    }

    /** The tape, and how its text is read into a draft of the rooms. */
    private static final class Teller {
        private static final int MOST_BYTES = 160;
        private static final int END_TOKEN = 0, NAME = 1, NUMBER = 2, SEMICOLON = 3, NO_TOKEN = 4;
        private static final int ROOM_LINE = 10, WALL_LINE = 11, OUT_LINE = 12, NO_LINE = 13;

        final byte[] tape = new byte[MOST_BYTES];
        int length;
        final House draft = new House();
        int faultFound;
        int faultPlace;
        int lines;
        private int token;
        private int start;
        private int behind;
        private boolean outTold;
        private int wallsTold;

        boolean put(int c) {
            if (length >= MOST_BYTES) {
                return false;
            }
            tape[length] = (byte) c;
            length++;
            return true;
        }

        /** Whether the text is taken; if not, faultFound and faultPlace say why. */
        boolean tell() {
            draft.empty();
            faultFound = 0;
            faultPlace = 0;
            lines = 0;
            behind = 0;
            outTold = false;
            wallsTold = 0;
            nextToken();
            for (int i = 0; i < MOST_BYTES && faultFound == 0 && token != END_TOKEN; i++) {
                tellLine();
                lines++;
                nextToken();
            }
            findMissing();
            return faultFound == 0;
        }

        /** Only the first fault counts, so reading may go on behind it without harm. */
        private void fail(int found, int place) {
            if (faultFound == 0) {
                faultFound = found;
                faultPlace = place;
            }
        }

        private void tellLine() {
            int line = token == NAME ? lineByName() : NO_LINE;
            switch (line) {
                case NO_LINE:
                    fail(2, start);
                    break;
                case ROOM_LINE:
                    tellRoom();
                    break;
                case WALL_LINE:
                    tellWall();
                    break;
                case OUT_LINE:
                    tellOut();
                    break;
                default:
                    tellTongue(line);
            }
        }

        /** The kind of a tongue's line, or which other line the name begins. */
        private int lineByName() {
            if (isNamed("plain")) {
                return 0;
            }
            if (isNamed("quick")) {
                return 1;
            }
            if (isNamed("lazy")) {
                return 2;
            }
            if (isNamed("bent")) {
                return 3;
            }
            if (isNamed("room")) {
                return ROOM_LINE;
            }
            if (isNamed("wall")) {
                return WALL_LINE;
            }
            return isNamed("out") ? OUT_LINE : NO_LINE;
        }

        private boolean isNamed(String word) {
            if (behind - start != word.length()) {
                return false;
            }
            for (int i = 0; i < word.length(); i++) {
                if (tape[start + i] != word.charAt(i)) {
                    return false;
                }
            }
            return true;
        }

        private void tellRoom() {
            int r = draft.rooms;
            if (r >= ROOMS) {
                fail(5, start);
                return;
            }
            draft.rooms++;
            draft.warmth[r] = nextNumber(WARMEST);
            draft.loss[r] = nextNumber(TOP_FIGURE);
            draft.gain[r] = nextNumber(TOP_FIGURE);
            endLine();
        }

        private void tellTongue(int kind) {
            int r = nextNumber(ROOMS - 1);
            if (draft.hasTongue(r)) {
                fail(4, start);
            }
            draft.tongue[r] = kind;
            draft.notch[r] = nextNumber(TOP_MARK);
            endLine();
        }

        private void tellWall() {
            int w = nextNumber(WALLS - 1);
            if ((wallsTold >> w & 1) == 1) {
                fail(4, start);
            }
            wallsTold |= 1 << w;
            draft.leak[w] = nextNumber(TOP_FIGURE);
            endLine();
        }

        private void tellOut() {
            if (outTold) {
                fail(4, start);
            }
            outTold = true;
            int h = 0;
            nextToken();
            while (h < DAY && token == NUMBER) {
                draft.skyAt[h] = tokenValue();
                h++;
                if (h == DAY) {
                    refuseNinth();
                }
                nextToken();
            }
            if (token != SEMICOLON) {
                fail(2, start);
            }
        }

        /** Looks ahead of reading a token, for figures too long for a number are a 9th one too, as a name is. */
        private void refuseNinth() {
            int place = placeOfNext();
            int sort = place < length ? sortOf(tape[place]) : END_TOKEN;
            if (sort == NUMBER || sort == NAME) {
                fail(5, place);
            }
        }

        private void endLine() {
            nextToken();
            if (token != SEMICOLON) {
                fail(2, start);
            }
        }

        /** A number of 0 to most; 0 if there is a fault. */
        private int nextNumber(int most) {
            nextToken();
            int number = tokenValue();
            if (token != NUMBER) {
                fail(2, start);
            } else if (number > most) {
                fail(3, start);
            }
            return faultFound == 0 ? number : 0;
        }

        private int tokenValue() {
            int number = 0;
            for (int i = start; i < behind && token == NUMBER; i++) {
                number = 10 * number + tape[i] - '0';
            }
            return number;
        }

        /** Reads a token, or the end, behind the one before. */
        private void nextToken() {
            start = placeOfNext();
            behind = start;
            token = start < length ? sortOf(tape[start]) : END_TOKEN;
            if (token == SEMICOLON) {
                behind++;
            }
            if (token == NAME || token == NUMBER) {
                while (behind < length && sortOf(tape[behind]) == token) {
                    behind++;
                }
            }
            if (token == NO_TOKEN || token == NUMBER && behind - start > 2) {
                token = NO_TOKEN;
                fail(1, start);
            }
        }

        /** Where the next token begins, or the length. */
        private int placeOfNext() {
            int place = behind;
            while (place < length && tape[place] == ' ') {
                place++;
            }
            return place;
        }

        private static int sortOf(int c) {
            if (c >= 'a' && c <= 'z') {
                return NAME;
            }
            if (c >= '0' && c <= '9') {
                return NUMBER;
            }
            return c == ';' ? SEMICOLON : NO_TOKEN;
        }

        private void findMissing() {
            for (int r = draft.rooms; r < ROOMS; r++) {
                if (draft.hasTongue(r)) {
                    fail(6, length);
                }
            }
            for (int w = 0; w < WALLS; w++) {
                if ((wallsTold >> w & 1) == 1 && !draft.hasWall(w)) {
                    fail(6, length);
                }
            }
        }
    }
}
