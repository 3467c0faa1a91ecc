import java.util.Arrays;

/** Walls, days and logs told as texts, and what they answer: see DOC.md, promises 1 to 35. */
public final class DeafWall {
    public static final int NONE = -1;

    private static final int NO_SUCH = -2;
    private static final int NO_DUET = -99;

    private static final int SORTS = 3;
    private static final int MOST_OF_A_SORT = 2;
    private static final int MOST_IMAGES = 3;
    private static final int MOST_BYTES = 600;
    private static final int BYTES_A_FEED = 20;

    private static final int MOST_COLUMNS = 8;
    private static final int MOST_ROWS = 4;
    private static final int MOST_CELLS = 32;
    private static final int MOST_DEAD = 9;
    private static final int MOST_FEELERS = 6;
    private static final int MOST_TALES = 6;
    private static final int MOST_MARKS = 6;
    private static final int MOST_DEEDS = 40;
    private static final int MOST_FACTS = 8;

    private static final int BEATS = 20;
    private static final int ALL_BEATS = (1 << BEATS) - 1;
    private static final int MOST_PUSH = 9;
    private static final int LONGEST_TUNE = 8;
    private static final int MOST_TUNES = 256;
    private static final int LONGEST_DUET = 4;
    private static final int PUSHES_OF_A_DUET = 4;
    private static final int STEP_OF_A_DUET = 3;
    private static final int MOST_WINTERS = 12;
    private static final int MOST_WAYS = 20;
    private static final int MOST_DRAWS = 60;
    private static final int MOST_DRIED = 8;
    private static final int FAR = 1000000;

    private static final int PLAY = 0;
    private static final int WET = 1;
    private static final int DRY = 2;
    private static final int HUSH = 3;
    private static final int TOUCH = 4;
    private static final int MOVE = 5;

    private static final int FELT = 0;

    private final Told told = new Told();
    private final Told[] images = new Told[MOST_IMAGES];
    private final Reader reader = new Reader();
    private final Stand stand = new Stand();
    private final Echo echo = new Echo();
    private final Paths paths = new Paths();
    /** By FEELER: the beats at which it FEELS a push of 9 that is made at beat 0 alone. */
    private final int[] heard = new int[MOST_FEELERS];
    private final int[] fitting = new int[MOST_TUNES];
    private final int[] tally = new int[BEATS];
    private final int[] worst = new int[BEATS * MOST_FEELERS];
    private final int[] games = new int[MOST_TUNES];
    private final int[] heardByOne = new int[PUSHES_OF_A_DUET];
    private final int[] heardByOther = new int[PUSHES_OF_A_DUET];
    private final long[] strengths = new long[MOST_PUSH + 1];
    private final long[] waysByLength = new long[MOST_WAYS + 1];
    private final int[] shortest = new int[2 << MOST_MARKS];

    public DeafWall() {
    }

    // ---- the tape and the texts ----

    public int feed(int a, int b, int c, int d, int e) {
        if (told.length + BYTES_A_FEED > MOST_BYTES) {
            return NONE;
        }
        told.put(a);
        told.put(b);
        told.put(c);
        told.put(d);
        told.put(e);
        return told.length;
    }

    public int end(int n) {
        if (n < 0 || n > told.length) {
            return NONE;
        }
        told.length = n;
        return n;
    }

    public int text(int sort, int at) {
        int length = told.length;
        // every text() takes the tape, also one that reads no text
        told.length = 0;
        told.fault = 0;
        told.place = NONE;
        int number = placeOf(sort, at);
        if (number == NONE) {
            return NO_SUCH;
        }
        reader.read(told.tape, length, sort);
        if (reader.fault != 0) {
            told.fault = reader.fault;
            told.place = reader.faultPlace;
            return NONE;
        }
        told.keep(sort, number, reader.wall, reader.lines);
        return number;
    }

    /** The number that a text will have, NONE if it can't have one. */
    private int placeOf(int sort, int at) {
        if (sort < 0 || sort >= SORTS) {
            return NONE;
        }
        int there = told.counts[sort];
        if (at == NONE) {
            return there < MOST_OF_A_SORT ? there : NONE;
        }
        return at >= 0 && at < there ? at : NONE;
    }

    public int fault(int what) {
        if (what == 0) {
            return told.fault;
        }
        return what == 1 ? told.place : NONE;
    }

    public int count(int sort) {
        return sort >= 0 && sort < SORTS ? told.counts[sort] : NO_SUCH;
    }

    public boolean image(int k) {
        if (k < 0 || k >= MOST_IMAGES) {
            return false;
        }
        if (images[k] == null) {
            images[k] = new Told();
        }
        images[k].become(told);
        return true;
    }

    public boolean again(int k) {
        if (k < 0 || k >= MOST_IMAGES || images[k] == null) {
            return false;
        }
        told.become(images[k]);
        return true;
    }

    // ---- what was told ----

    public int wall(int wall, int what) {
        Wall w = wallAt(wall);
        if (w == null || what < 0) {
            return NONE;
        }
        if (what >= 100) {
            return w.hasCell(what - 100) ? w.dead[what - 100] : NONE;
        }
        if (what >= 40) {
            return w.hasTale(what - 40) ? w.taleMarks[what - 40] : NONE;
        }
        if (what >= 30) {
            return w.hasTale(what - 30) ? w.taleLength[what - 30] : NONE;
        }
        if (what >= 20) {
            return w.hasFeeler(what - 20) ? w.tender[what - 20] : NONE;
        }
        if (what >= 10) {
            return w.hasFeeler(what - 10) ? w.feelerCell[what - 10] : NONE;
        }
        switch (what) {
            case 0: return w.columns;
            case 1: return w.rows;
            case 2: return w.source;
            case 3: return w.feelers;
            case 4: return w.tales;
            default: return NONE;
        }
    }

    public int deed(int day, int k, int what) {
        return lineOf(linesAt(1, day), k, what);
    }

    public int fact(int log, int k, int what) {
        return lineOf(linesAt(2, log), k, what);
    }

    private static int lineOf(Lines lines, int k, int what) {
        if (lines == null) {
            return NO_SUCH;
        }
        if (k == NONE && what == 0) {
            return lines.size;
        }
        if (k < 0 || k >= lines.size) {
            return NO_SUCH;
        }
        switch (what) {
            case 0: return lines.kind[k];
            case 1: return lines.first[k];
            case 2: return lines.second[k];
            default: return NO_SUCH;
        }
    }

    private Wall wallAt(int wall) {
        return wall >= 0 && wall < told.counts[0] ? told.walls[wall] : null;
    }

    private Lines linesAt(int sort, int at) {
        if (at < 0 || at >= told.counts[sort]) {
            return null;
        }
        return sort == 1 ? told.days[at] : told.logs[at];
    }

    // ---- days at a wall ----

    public int stop(int wall, int day) {
        Wall w = wallAt(wall);
        Lines lines = linesAt(1, day);
        if (w == null || lines == null) {
            return NONE;
        }
        return stand.live(w, lines, lines.size);
    }

    public int state(int wall, int day, int n, int what) {
        Wall w = wallAt(wall);
        Lines lines = linesAt(1, day);
        if (w == null || lines == null || n < 0 || n > lines.size) {
            return NO_SUCH;
        }
        return stand.live(w, lines, n) == n ? stand.answer(what) : NO_SUCH;
    }

    public int after(int wall, int day, int what) {
        Wall w = wallAt(wall);
        Lines lines = linesAt(1, day);
        if (w == null || lines == null) {
            return NO_SUCH;
        }
        stand.live(w, lines, lines.size);
        switch (what) {
            case 0: return stand.firstFelt;
            case 1: return stand.busiest;
            case 2: return stand.keenest();
            case 3: return stand.pushed;
            case 4: return stand.silent;
            case 5: return stand.strolls;
            default: return NO_SUCH;
        }
    }

    public int drawn(int wall, int seed, int n, int what) {
        Wall w = wallAt(wall);
        if (w == null || n < 0 || n > MOST_DRAWS) {
            return NO_SUCH;
        }
        stand.begin(w);
        Draw draw = new Draw(seed);
        for (int k = 0; k < n; k++) {
            drawDeed(w, draw);
        }
        return stand.answer(what);
    }

    private void drawDeed(Wall w, Draw draw) {
        int kind = draw.below(10);
        if (kind <= 4) {
            stand.does(PLAY, draw.below(10), NONE);
        } else if (kind <= 6) {
            stand.does(kind == 5 ? WET : DRY, draw.below(w.cells()), NONE);
        } else if (w.feelers == 0) {
            return;
        } else if (kind <= 8) {
            stand.does(kind == 7 ? HUSH : TOUCH, draw.below(w.feelers), NONE);
        } else {
            int feeler = draw.below(w.feelers);
            stand.does(MOVE, feeler, draw.below(w.cells()));
        }
    }

    // ---- tunes ----

    public int tune(int wall, int n, int tune, int what) {
        Wall w = wallAt(wall);
        if (w == null || !isTune(n, tune) || what < 0) {
            return NO_SUCH;
        }
        listen(w);
        if (what < BEATS) {
            return feelersAt(w, tune, what);
        }
        if (what == 40) {
            return echo.allForce(w, tune);
        }
        return what >= 30 && w.hasFeeler(what - 30) ? talesTold(w, feltBy(heard[what - 30], tune)) : NO_SUCH;
    }

    private static boolean isLength(int n) {
        return n >= 1 && n <= LONGEST_TUNE;
    }

    private static boolean isTune(int n, int tune) {
        return isLength(n) && tune >= 0 && tune < 1 << n;
    }

    private void listen(Wall w) {
        echo.sound(w);
        hear(w);
    }

    private void hear(Wall w) {
        for (int f = 0; f < w.feelers; f++) {
            heard[f] = echo.beatsFelt(w.feelerCell[f], w.tender[f], MOST_PUSH);
        }
    }

    /** FORCE of several pushes is the greatest FORCE of any one of them, so what is felt is felt of one of them. */
    private static int feltBy(int heardOfOne, int tune) {
        int felt = 0;
        for (int beat = 0; beat < LONGEST_TUNE; beat++) {
            if ((tune >> beat & 1) == 1) {
                felt |= heardOfOne << beat;
            }
        }
        return felt & ALL_BEATS;
    }

    private int feelersAt(Wall w, int tune, int beat) {
        int bits = 0;
        for (int f = 0; f < w.feelers; f++) {
            bits |= (feltBy(heard[f], tune) >> beat & 1) << f;
        }
        return bits;
    }

    private static int talesTold(Wall w, int felt) {
        int bits = 0;
        for (int k = 0; k < w.tales; k++) {
            if (isTold(felt, w.taleLength[k], w.taleMarks[k])) {
                bits |= 1 << k;
            }
        }
        return bits;
    }

    private static boolean isTold(int felt, int length, int marks) {
        int mask = (1 << length) - 1;
        for (int from = 0; from + length <= BEATS; from++) {
            if ((felt >> from & mask) == marks) {
                return true;
            }
        }
        return false;
    }

    public int play(int wall, int feeler, int tale, boolean which) {
        Wall w = wallAt(wall);
        if (w == null || !w.hasFeeler(feeler) || !w.hasTale(tale)) {
            return NONE;
        }
        listen(w);
        for (int n = 1; n <= LONGEST_TUNE; n++) {
            for (int tune = 0; tune < 1 << n; tune++) {
                if (isTold(feltBy(heard[feeler], tune), w.taleLength[tale], w.taleMarks[tale])) {
                    return which ? tune : n;
                }
            }
        }
        return NONE;
    }

    public int most(int wall, int n, boolean which) {
        Wall w = wallAt(wall);
        if (w == null || !isLength(n)) {
            return NONE;
        }
        return best(w, n, true, which);
    }

    public int loud(int wall, int n, boolean which) {
        Wall w = wallAt(wall);
        if (w == null || !isLength(n)) {
            return NONE;
        }
        return best(w, n, false, which);
    }

    /** Of the TUNES of n, by couples TOLD or by beats FELT, the most, or the least TUNE that has it. */
    private int best(Wall w, int n, boolean byTales, boolean which) {
        listen(w);
        int greatest = NONE;
        int first = 0;
        for (int tune = 0; tune < 1 << n; tune++) {
            int worth = byTales ? couplesTold(w, tune) : beatsFeltByAll(w, tune);
            if (worth > greatest) {
                greatest = worth;
                first = tune;
            }
        }
        return which ? first : greatest;
    }

    private int couplesTold(Wall w, int tune) {
        int couples = 0;
        for (int f = 0; f < w.feelers; f++) {
            couples += Integer.bitCount(talesTold(w, feltBy(heard[f], tune)));
        }
        return couples;
    }

    private int beatsFeltByAll(Wall w, int tune) {
        int beats = 0;
        for (int f = 0; f < w.feelers; f++) {
            beats += Integer.bitCount(feltBy(heard[f], tune));
        }
        return beats;
    }

    public int apart(int wall, int a, int b, int n) {
        Wall w = wallAt(wall);
        if (w == null || !areTwo(w, a, b) || !isLength(n)) {
            return NONE;
        }
        listen(w);
        int unlike = 0;
        for (int tune = 0; tune < 1 << n; tune++) {
            if (feltBy(heard[a], tune) != feltBy(heard[b], tune)) {
                unlike++;
            }
        }
        return unlike;
    }

    private static boolean areTwo(Wall w, int a, int b) {
        return a != b && w.hasFeeler(a) && w.hasFeeler(b);
    }

    // ---- one push, and pushes all the time ----

    public int reach(int wall, int feeler, boolean when) {
        Wall w = wallAt(wall);
        if (w == null || !w.hasFeeler(feeler)) {
            return NONE;
        }
        echo.sound(w);
        int least = leastPush(w, feeler);
        if (least == NONE || !when) {
            return least;
        }
        return Integer.numberOfTrailingZeros(echo.beatsFelt(w.feelerCell[feeler], w.tender[feeler], least));
    }

    /** REACH by the echo that is sounding. */
    private int leastPush(Wall w, int feeler) {
        for (int push = 1; push <= MOST_PUSH; push++) {
            if (echo.beatsFelt(w.feelerCell[feeler], w.tender[feeler], push) != 0) {
                return push;
            }
        }
        return NONE;
    }

    public int keys(int wall, int feeler, boolean first) {
        Wall w = wallAt(wall);
        if (w == null || !w.hasFeeler(feeler)) {
            return NO_SUCH;
        }
        echo.sound(w);
        if (leastPush(w, feeler) == NONE) {
            return NO_SUCH;
        }
        int found = 0;
        for (int cell = 0; cell < w.cells(); cell++) {
            echo.soundWith(w, cell, MOST_DEAD);
            if (leastPush(w, feeler) == NONE) {
                if (first) {
                    return cell;
                }
                found++;
            }
        }
        return first ? NONE : found;
    }

    public int dried(int wall, int feeler, int k) {
        Wall w = wallAt(wall);
        if (w == null || !w.hasFeeler(feeler) || k < 0 || k > MOST_DRIED) {
            return NONE;
        }
        paths.lay(w, w.source, k);
        int least = w.tender[feeler] + paths.lossTo(w.feelerCell[feeler], k);
        return least <= MOST_PUSH ? least : NONE;
    }

    public int hold(int wall, int feeler, int push, int what) {
        Wall w = wallAt(wall);
        if (w == null || !w.hasFeeler(feeler) || push < 0 || push > MOST_PUSH) {
            return NO_SUCH;
        }
        echo.sound(w);
        int one = echo.beatsFelt(w.feelerCell[feeler], w.tender[feeler], push);
        int felt = 0;
        for (int beat = 0; beat < BEATS; beat++) {
            felt |= one << beat & ALL_BEATS;
        }
        switch (what) {
            case 0: return Integer.bitCount(felt);
            case 1: return felt == 0 ? NONE : Integer.numberOfTrailingZeros(felt);
            case 2: return longestRow(felt);
            default: return NO_SUCH;
        }
    }

    private static int longestRow(int felt) {
        int longest = 0;
        int row = 0;
        for (int beat = 0; beat < BEATS; beat++) {
            row = (felt >> beat & 1) == 1 ? row + 1 : 0;
            longest = Math.max(longest, row);
        }
        return longest;
    }

    // ---- the duet ----

    public int duet(int wall, int a, int b, int n, boolean first) {
        Wall w = wallAt(wall);
        if (w == null || !areTwo(w, a, b) || n < 0 || n > LONGEST_DUET) {
            return NO_DUET;
        }
        if (n == 0) {
            return first ? NONE : 0;
        }
        hearDuet(w, a, b);
        for (int game = 0; game < 1 << 2 * n; game++) {
            games[game] = gain(game, n);
        }
        for (int beat = n - 1; beat > 0; beat--) {
            for (int at = 0; at < 1 << 2 * beat; at++) {
                games[at] = games[bestOfFour(at, beat % 2 == 0)];
            }
        }
        int best = bestOfFour(0, true);
        return first ? STEP_OF_A_DUET * best : games[best];
    }

    private void hearDuet(Wall w, int a, int b) {
        echo.sound(w);
        for (int k = 0; k < PUSHES_OF_A_DUET; k++) {
            heardByOne[k] = echo.beatsFelt(w.feelerCell[a], w.tender[a], STEP_OF_A_DUET * k);
            heardByOther[k] = echo.beatsFelt(w.feelerCell[b], w.tender[b], STEP_OF_A_DUET * k);
        }
    }

    /** A game is its pushes, two bits each, the first push the highest, so that the last ones lie side by side. */
    private int gain(int game, int n) {
        int one = 0;
        int other = 0;
        for (int beat = 0; beat < n; beat++) {
            int push = game >> 2 * (n - 1 - beat) & 3;
            one |= heardByOne[push] << beat;
            other |= heardByOther[push] << beat;
        }
        return Integer.bitCount(one & ALL_BEATS) - Integer.bitCount(other & ALL_BEATS);
    }

    /** Of the four games that go on from one, the first that is greatest, or least. */
    private int bestOfFour(int at, boolean greatest) {
        int best = PUSHES_OF_A_DUET * at;
        for (int game = best + 1; game < PUSHES_OF_A_DUET * (at + 1) && game < games.length; game++) {
            if (greatest ? games[game] > games[best] : games[game] < games[best]) {
                best = game;
            }
        }
        return best;
    }

    // ---- the arm ----

    public long arm(int wall, int feeler, int p, int n, boolean under) {
        Wall w = wallAt(wall);
        if (w == null || !w.hasFeeler(feeler) || p < 0 || p > 10 || n < 0 || n > MOST_WINTERS) {
            return NONE;
        }
        echo.sound(w);
        int least = leastPush(w, feeler);
        weaken(p, n);
        long likely = 0;
        long all = 0;
        for (int strength = 0; strength <= MOST_PUSH; strength++) {
            all += strengths[strength];
            if (least != NONE && strength >= least) {
                likely += strengths[strength];
            }
        }
        return leastTerm(likely, all, under);
    }

    /** Of ten to the n ways in which n winters go, in how many the arm has each strength. */
    private void weaken(int p, int n) {
        Arrays.fill(strengths, 0L);
        strengths[MOST_PUSH] = 1;
        for (int winter = 0; winter < n; winter++) {
            strengths[0] = 10 * strengths[0] + p * strengths[1];
            for (int s = 1; s < MOST_PUSH; s++) {
                strengths[s] = (10 - p) * strengths[s] + p * strengths[s + 1];
            }
            strengths[MOST_PUSH] = (10 - p) * strengths[MOST_PUSH];
        }
    }

    private static long leastTerm(long part, long all, boolean under) {
        long divisor = greatestDivisor(part, all);
        if (divisor == 0) {
            return NONE;
        }
        return (under ? all : part) / divisor;
    }

    private static long greatestDivisor(long a, long b) {
        long x = a;
        long y = b;
        for (int k = 0; k < 200 && y != 0; k++) {
            long rest = x % y;
            x = y;
            y = rest;
        }
        return x;
    }

    // ---- tales as a code ----

    public int code(int wall) {
        Wall w = wallAt(wall);
        if (w == null) {
            return NONE;
        }
        Arrays.fill(shortest, FAR);
        for (int a = 0; a < w.tales; a++) {
            for (int b = a + 1; b < w.tales; b++) {
                lay(overhang(tail(w, a), tail(w, b)), Math.max(w.taleLength[a], w.taleLength[b]));
            }
        }
        boolean changed = true;
        for (int round = 0; round < shortest.length && changed; round++) {
            changed = layFurther(w);
        }
        return shortest[1] < FAR ? shortest[1] : 0;
    }

    /** A row of MARKS as one number: a 1 above its bits tells how many there are; no MARKS are 1. */
    private static int tail(Wall w, int tale) {
        return 1 << w.taleLength[tale] | w.taleMarks[tale];
    }

    private static int lengthOf(int tail) {
        return 31 - Integer.numberOfLeadingZeros(tail);
    }

    /** What the longer of two rows has behind the shorter one, 0 if it does not begin with that. */
    private static int overhang(int a, int b) {
        int longer = Math.max(a, b);
        int shorter = Math.min(a, b);
        int length = lengthOf(shorter);
        int mask = (1 << length) - 1;
        return (longer & mask) == (shorter & mask) ? longer >> length : 0;
    }

    private boolean lay(int tail, int length) {
        if (tail <= 0 || tail >= shortest.length || shortest[tail] <= length) {
            return false;
        }
        shortest[tail] = length;
        return true;
    }

    /** Two readings of one row, the one ahead of the other by a tail: each TALE is tried behind the shorter one. */
    private boolean layFurther(Wall w) {
        boolean changed = false;
        for (int tail = 2; tail < shortest.length; tail++) {
            if (shortest[tail] == FAR) {
                continue;
            }
            for (int k = 0; k < w.tales; k++) {
                int more = Math.max(0, w.taleLength[k] - lengthOf(tail));
                if (lay(overhang(tail, tail(w, k)), shortest[tail] + more)) {
                    changed = true;
                }
            }
        }
        return changed;
    }

    public long ways(int wall, int n) {
        Wall w = wallAt(wall);
        if (w == null || n < 0 || n > MOST_WAYS) {
            return NONE;
        }
        Arrays.fill(waysByLength, 0L);
        waysByLength[0] = 1;
        for (int length = 1; length <= n; length++) {
            for (int k = 0; k < w.tales; k++) {
                if (w.taleLength[k] <= length) {
                    waysByLength[length] += waysByLength[length - w.taleLength[k]];
                }
            }
        }
        return waysByLength[n];
    }

    public int rhyme(int wall, int a, int b, int what) {
        Wall w = wallAt(wall);
        if (w == null || !w.hasTale(a) || !w.hasTale(b)) {
            return NONE;
        }
        switch (what) {
            case 0: return alikeFromBehind(w, a, b);
            case 1: return alikeFrom(w, a, 0, b, 0);
            case 2: return longestShared(w, a, b) == w.taleLength[a] ? 1 : 0;
            case 3: return longestShared(w, a, b);
            case 4: return isTurned(w, a, b) ? 1 : 0;
            default: return NONE;
        }
    }

    private static int markOf(Wall w, int tale, int at) {
        return w.taleMarks[tale] >> at & 1;
    }

    private static int alikeFromBehind(Wall w, int a, int b) {
        int shorter = Math.min(w.taleLength[a], w.taleLength[b]);
        for (int k = 0; k < shorter; k++) {
            if (markOf(w, a, w.taleLength[a] - 1 - k) != markOf(w, b, w.taleLength[b] - 1 - k)) {
                return k;
            }
        }
        return shorter;
    }

    private static int alikeFrom(Wall w, int a, int atA, int b, int atB) {
        int shorter = Math.min(w.taleLength[a] - atA, w.taleLength[b] - atB);
        for (int k = 0; k < shorter; k++) {
            if (markOf(w, a, atA + k) != markOf(w, b, atB + k)) {
                return k;
            }
        }
        return shorter;
    }

    private static int longestShared(Wall w, int a, int b) {
        int longest = 0;
        for (int atA = 0; atA < w.taleLength[a]; atA++) {
            for (int atB = 0; atB < w.taleLength[b]; atB++) {
                longest = Math.max(longest, alikeFrom(w, a, atA, b, atB));
            }
        }
        return longest;
    }

    private static boolean isTurned(Wall w, int a, int b) {
        int length = w.taleLength[a];
        if (length != w.taleLength[b]) {
            return false;
        }
        for (int k = 0; k < length; k++) {
            if (markOf(w, a, k) != markOf(w, b, length - 1 - k)) {
                return false;
            }
        }
        return true;
    }

    // ---- logs at a wall ----

    public int fits(int wall, int log, int n, int what) {
        Wall w = wallAt(wall);
        Lines lines = linesAt(2, log);
        if (w == null || lines == null || !isLength(n) || what < 0) {
            return NO_SUCH;
        }
        int found = fit(w, lines, n);
        if (what >= 10) {
            return what - 10 < found ? fitting[what - 10] : NO_SUCH;
        }
        switch (what) {
            case 0: return found;
            case 1: return sure(found, n, true);
            case 2: return sure(found, n, false);
            case 3: return ask(w, found);
            default: return NO_SUCH;
        }
    }

    /** Puts the TUNES that FIT into fitting, rising: how many. */
    private int fit(Wall w, Lines log, int n) {
        listen(w);
        int found = 0;
        for (int tune = 0; tune < 1 << n; tune++) {
            if (factsAreSo(w, log, tune)) {
                fitting[found] = tune;
                found++;
            }
        }
        return found;
    }

    private boolean factsAreSo(Wall w, Lines log, int tune) {
        for (int k = 0; k < log.size; k++) {
            if (!w.hasFeeler(log.first[k])) {
                return false;
            }
            boolean felt = (feltBy(heard[log.first[k]], tune) >> log.second[k] & 1) == 1;
            if (felt != (log.kind[k] == FELT)) {
                return false;
            }
        }
        return true;
    }

    private int sure(int found, int n, boolean pushed) {
        if (found == 0) {
            return 0;
        }
        int bits = (1 << n) - 1;
        for (int k = 0; k < found; k++) {
            bits &= pushed ? fitting[k] : ~fitting[k];
        }
        return bits;
    }

    private int ask(Wall w, int found) {
        if (found == 0 || w.feelers == 0) {
            return NONE;
        }
        for (int f = 0; f < w.feelers; f++) {
            countFelt(f, found);
            for (int beat = 0; beat < BEATS; beat++) {
                worst[beat * MOST_FEELERS + f] = Math.max(tally[beat], found - tally[beat]);
            }
        }
        int least = FAR;
        int best = NONE;
        for (int beat = 0; beat < BEATS; beat++) {
            for (int f = 0; f < w.feelers; f++) {
                if (worst[beat * MOST_FEELERS + f] < least) {
                    least = worst[beat * MOST_FEELERS + f];
                    best = 10 * beat + f;
                }
            }
        }
        return best;
    }

    private void countFelt(int feeler, int found) {
        Arrays.fill(tally, 0);
        for (int k = 0; k < found; k++) {
            int felt = feltBy(heard[feeler], fitting[k]);
            for (int beat = 0; beat < BEATS; beat++) {
                tally[beat] += felt >> beat & 1;
            }
        }
    }

    public int brick(int wall, int log, int cell, int n, int tune) {
        Wall w = wallAt(wall);
        Lines lines = linesAt(2, log);
        if (w == null || lines == null || !w.hasCell(cell) || !isTune(n, tune)) {
            return NONE;
        }
        int bits = 0;
        for (int dead = 1; dead <= MOST_DEAD; dead++) {
            echo.soundWith(w, cell, dead);
            hear(w);
            if (factsAreSo(w, lines, tune)) {
                bits |= 1 << dead;
            }
        }
        return bits;
    }

    public long odds(int wall, int log, int n, int beat, boolean under) {
        Wall w = wallAt(wall);
        Lines lines = linesAt(2, log);
        if (w == null || lines == null || !isLength(n) || beat < 0 || beat >= n) {
            return NONE;
        }
        int found = fit(w, lines, n);
        if (found == 0) {
            return NONE;
        }
        int pushed = 0;
        for (int k = 0; k < found; k++) {
            pushed += fitting[k] >> beat & 1;
        }
        return leastTerm(pushed, found, under);
    }

    public int few(int wall, int log, int n, boolean most) {
        Wall w = wallAt(wall);
        Lines lines = linesAt(2, log);
        if (w == null || lines == null || !isLength(n)) {
            return NONE;
        }
        int found = fit(w, lines, n);
        if (found == 0) {
            return NONE;
        }
        int answer = Integer.bitCount(fitting[0]);
        for (int k = 1; k < found; k++) {
            int pushes = Integer.bitCount(fitting[k]);
            answer = most ? Math.max(answer, pushes) : Math.min(answer, pushes);
        }
        return answer;
    }

    // ---- the wall as it is ----

    public int loss(int wall, int a, int b, boolean steps) {
        Wall w = wallAt(wall);
        if (w == null || !w.hasCell(a) || !w.hasCell(b)) {
            return NONE;
        }
        if (steps) {
            return w.stepsBetween(a, b);
        }
        paths.lay(w, a, 0);
        return paths.lossTo(b, 0);
    }

    public int shade(int wall, int what) {
        Wall w = wallAt(wall);
        if (w == null) {
            return NO_SUCH;
        }
        switch (what) {
            case 0: return shadow(w, false);
            case 1: return shadow(w, true);
            case 2: return farthest(w);
            case 3: return paths.lossTo(farthest(w), 0);
            case 4: return w.deadest();
            case 5: return w.allDeads();
            case 6: return w.tenderest();
            case 7: return w.sharing();
            case 8: return w.seams();
            default: return NO_SUCH;
        }
    }

    private int shadow(Wall w, boolean first) {
        echo.sound(w);
        int found = 0;
        for (int cell = 0; cell < w.cells(); cell++) {
            if (echo.beatsFelt(cell, 1, MOST_PUSH) == 0) {
                if (first) {
                    return cell;
                }
                found++;
            }
        }
        return first ? NONE : found;
    }

    private int farthest(Wall w) {
        paths.lay(w, w.source, 0);
        int best = 0;
        for (int cell = 1; cell < w.cells(); cell++) {
            if (paths.lossTo(cell, 0) > paths.lossTo(best, 0)) {
                best = cell;
            }
        }
        return best;
    }

    /** One beat without a push: FORCE of each CELL by what the CELLS BESIDE it had. */
    private static void passOn(Wall w, int[] dead, int[] from, int[] to) {
        for (int y = 0; y < w.rows; y++) {
            for (int x = 0; x < w.columns; x++) {
                int cell = y * w.columns + x;
                int force = 0;
                if (y > 0) {
                    force = from[cell - w.columns];
                }
                if (y + 1 < w.rows) {
                    force = Math.max(force, from[cell + w.columns]);
                }
                if (x > 0) {
                    force = Math.max(force, from[cell - 1]);
                }
                if (x + 1 < w.columns) {
                    force = Math.max(force, from[cell + 1]);
                }
                to[cell] = Math.max(0, force - dead[cell]);
            }
        }
    }

    /** A WALL as told; it never changes once its text has been taken, so that images may share it. */
    private static final class Wall {
        int columns = 3;
        int rows = 2;
        int source = 0;
        final int[] dead = new int[MOST_CELLS];
        int feelers = 0;
        final int[] feelerCell = new int[MOST_FEELERS];
        final int[] tender = new int[MOST_FEELERS];
        int tales = 0;
        final int[] taleLength = new int[MOST_TALES];
        final int[] taleMarks = new int[MOST_TALES];

        Wall() {
            Arrays.fill(dead, 2);
        }

        int cells() {
            return columns * rows;
        }

        boolean hasCell(int cell) {
            return cell >= 0 && cell < columns * rows;
        }

        boolean hasFeeler(int feeler) {
            return feeler >= 0 && feeler < feelers;
        }

        boolean hasTale(int tale) {
            return tale >= 0 && tale < tales;
        }

        void resize(int w, int h) {
            if (w >= 1 && w <= MOST_COLUMNS && h >= 1 && h <= MOST_ROWS) {
                columns = w;
                rows = h;
            }
        }

        void deaden(int cell, int much) {
            if (cell >= 0 && cell < MOST_CELLS) {
                dead[cell] = much;
            }
        }

        void putSource(int cell) {
            if (cell >= 0 && cell < MOST_CELLS) {
                source = cell;
            }
        }

        void addFeeler(int cell, int tenderness) {
            if (feelers < MOST_FEELERS && cell >= 0 && cell < MOST_CELLS) {
                feelerCell[feelers] = cell;
                tender[feelers] = tenderness;
                feelers++;
            }
        }

        void addTale(int length, int marks) {
            if (tales < MOST_TALES && length >= 1 && length <= MOST_MARKS) {
                taleLength[tales] = length;
                taleMarks[tales] = marks;
                tales++;
            }
        }

        /** No CELL is missing, so the fewest steps go straight. */
        int stepsBetween(int a, int b) {
            if (columns < 1) {
                return 0;
            }
            return Math.abs(a % columns - b % columns) + Math.abs(a / columns - b / columns);
        }

        int deadest() {
            int best = 0;
            for (int cell = 1; cell < cells(); cell++) {
                if (dead[cell] > dead[best]) {
                    best = cell;
                }
            }
            return best;
        }

        int allDeads() {
            int sum = 0;
            for (int cell = 0; cell < cells(); cell++) {
                sum += dead[cell];
            }
            return sum;
        }

        int tenderest() {
            int best = NONE;
            for (int f = 0; f < feelers; f++) {
                if (best == NONE || tender[f] < tender[best]) {
                    best = f;
                }
            }
            return best;
        }

        int sharing() {
            int couples = 0;
            for (int a = 0; a < feelers; a++) {
                for (int b = a + 1; b < feelers; b++) {
                    if (feelerCell[a] == feelerCell[b]) {
                        couples++;
                    }
                }
            }
            return couples;
        }

        int seams() {
            int couples = 0;
            for (int y = 0; y < rows; y++) {
                for (int x = 0; x < columns; x++) {
                    int cell = y * columns + x;
                    if (x + 1 < columns && dead[cell] != dead[cell + 1]) {
                        couples++;
                    }
                    if (y + 1 < rows && dead[cell] != dead[cell + columns]) {
                        couples++;
                    }
                }
            }
            return couples;
        }
    }

    /** The DEEDS of a DAY or the FACTS of a LOG; like a WALL it never changes once it has been taken. */
    private static final class Lines {
        int size = 0;
        final int[] kind;
        final int[] first;
        final int[] second;

        Lines(boolean ofDay) {
            int limit = ofDay ? MOST_DEEDS : MOST_FACTS;
            kind = new int[limit];
            first = new int[limit];
            second = new int[limit];
        }

        void addLine(int sortOfLine, int a, int b) {
            if (size < kind.length && size < first.length && size < second.length) {
                kind[size] = sortOfLine;
                first[size] = a;
                second[size] = b;
                size++;
            }
        }
    }

    /** All that is told: what an image keeps. */
    private static final class Told {
        final byte[] tape = new byte[MOST_BYTES];
        int length = 0;
        int fault = 0;
        int place = NONE;
        final int[] counts = new int[SORTS];
        final Wall[] walls = new Wall[MOST_OF_A_SORT];
        final Lines[] days = new Lines[MOST_OF_A_SORT];
        final Lines[] logs = new Lines[MOST_OF_A_SORT];

        void put(int number) {
            for (int shift = 24; shift >= 0 && length < MOST_BYTES; shift -= 8) {
                tape[length] = (byte) (number >> shift);
                length++;
            }
        }

        void keep(int sort, int number, Wall wall, Lines lines) {
            if (sort < 0 || sort >= SORTS || number < 0 || number >= MOST_OF_A_SORT) {
                return;
            }
            if (sort == 0) {
                walls[number] = wall;
            } else if (sort == 1) {
                days[number] = lines;
            } else {
                logs[number] = lines;
            }
            counts[sort] = Math.max(counts[sort], number + 1);
        }

        void become(Told other) {
            System.arraycopy(other.tape, 0, tape, 0, MOST_BYTES);
            length = other.length;
            fault = other.fault;
            place = other.place;
            System.arraycopy(other.counts, 0, counts, 0, SORTS);
            for (int k = 0; k < MOST_OF_A_SORT; k++) {
                walls[k] = other.walls[k];
                days[k] = other.days[k];
                logs[k] = other.logs[k];
            }
        }
    }

    /** Reads the tape as a text of one sort: a WALL or LINES, or a FAULT. */
    private static final class Reader {
        private static final int WORD = 0;
        private static final int NUMBER = 1;
        private static final int SEMICOLON = 2;
        private static final int END = 3;
        private static final int OTHER = 4;

        private static final int WALL = 0;
        private static final int DEAD = 1;
        private static final int SOURCE = 2;
        private static final int FEELER = 3;
        private static final int TALE = 4;

        /** By sort: its first kind of line; behind the last one, where the next would begin. */
        private static final int[] FIRST_KIND = {0, 5, 11, 13};
        /** By kind of line: how many NUMBERS, and between what the first and the second one are. */
        private static final int[] NUMBERS = {2, 2, 1, 2, 1, 1, 1, 1, 1, 1, 2, 2, 2};
        private static final int[] LEAST_FIRST = {1, 0, 0, 0, 0, 0, 0, 0, 0, 0, 0, 0, 0};
        private static final int[] MOST_FIRST = {8, 31, 31, 31, 1, 9, 31, 31, 5, 5, 5, 5, 5};
        private static final int[] LEAST_SECOND = {1, 1, 0, 1, 0, 0, 0, 0, 0, 0, 0, 0, 0};
        private static final int[] MOST_SECOND = {4, 9, 0, 9, 0, 0, 0, 0, 0, 0, 31, 19, 19};

        Wall wall;
        Lines lines;
        int fault;
        int faultPlace;
        private byte[] tape = new byte[0];
        private int length;
        private int sort;
        private int token;
        private int place;
        private int behind;
        private int number;
        private int toldFeelers;
        private int toldTales;
        private int toldLines;
        private int farthestCell;

        void read(byte[] bytes, int count, int sortOfText) {
            tape = bytes;
            length = Math.min(count, bytes.length);
            sort = sortOfText;
            wall = sort == 0 ? new Wall() : null;
            lines = sort == 0 ? null : new Lines(sort == 1);
            fault = 0;
            faultPlace = NONE;
            toldFeelers = 0;
            toldTales = 0;
            toldLines = 0;
            farthestCell = 0;
            behind = 0;
            nextToken();
            boolean goesOn = true;
            for (int k = 0; k <= MOST_BYTES && goesOn && token != END; k++) {
                goesOn = readLine();
            }
            if (fault == 0 && wall != null && !wall.hasCell(farthestCell)) {
                note(4, length);
            }
        }

        private void nextToken() {
            place = behind;
            while (place < length && (tape[place] == 10 || tape[place] == 32)) {
                place++;
            }
            behind = place;
            if (place >= length) {
                token = END;
            } else if (isLetter(place)) {
                token = WORD;
                while (behind < length && isLetter(behind)) {
                    behind++;
                }
            } else if (isDigit(place)) {
                readNumber();
            } else {
                token = tape[place] == ';' ? SEMICOLON : OTHER;
                behind++;
            }
        }

        private void readNumber() {
            number = 0;
            while (behind < length && isDigit(behind)) {
                number = (number * 10 + tape[behind] - '0') % 100;
                behind++;
            }
            token = behind - place <= 2 ? NUMBER : OTHER;
        }

        private boolean isLetter(int at) {
            return at >= 0 && at < length && tape[at] >= 'a' && tape[at] <= 'z';
        }

        private boolean isDigit(int at) {
            return at >= 0 && at < length && tape[at] >= '0' && tape[at] <= '9';
        }

        /** Tokens come in their order, so the first note is the first by place; FAULT 1 alone goes ahead of it. */
        private void note(int what, int at) {
            if (fault == 0 || what == 1) {
                fault = what;
                faultPlace = at;
            }
        }

        private boolean refuse() {
            note(1, place);
            return false;
        }

        private boolean readLine() {
            int kind = token == WORD ? kindOfWord() : NONE;
            if (kind == NONE) {
                return refuse();
            }
            countLine(kind);
            nextToken();
            if (kind == TALE) {
                return readTale();
            }
            int first = 0;
            int second = NONE;
            for (int k = 0; k < NUMBERS[kind]; k++) {
                if (token != NUMBER) {
                    return refuse();
                }
                lookAtNumber(kind, k);
                if (k == 0) {
                    first = number;
                } else {
                    second = number;
                }
                nextToken();
            }
            if (token != SEMICOLON) {
                return refuse();
            }
            nextToken();
            keepLine(kind, first, second);
            return true;
        }

        private int kindOfWord() {
            if (sort < 0 || sort >= SORTS) {
                return NONE;
            }
            for (int kind = FIRST_KIND[sort]; kind < FIRST_KIND[sort + 1]; kind++) {
                if (isWord(wordOf(kind))) {
                    return kind;
                }
            }
            return NONE;
        }

        private boolean isWord(String word) {
            if (behind - place != word.length()) {
                return false;
            }
            for (int k = 0; k < word.length() && place + k < length; k++) {
                if (tape[place + k] != word.charAt(k)) {
                    return false;
                }
            }
            return true;
        }

        private static String wordOf(int kind) {
            switch (kind) {
                case 0: return "wall";
                case 1: return "dead";
                case 2: return "source";
                case 3: return "feeler";
                case 4: return "tale";
                case 5: return "play";
                case 6: return "wet";
                case 7: return "dry";
                case 8: return "hush";
                case 9: return "touch";
                case 10: return "move";
                case 11: return "felt";
                case 12: return "not";
                default: return "";
            }
        }

        /** A line counts at its first token, whatever its NUMBERS are. */
        private void countLine(int kind) {
            if (kind == FEELER) {
                toldFeelers++;
            } else if (kind == TALE) {
                toldTales++;
            } else if (kind > TALE) {
                toldLines++;
            }
            int mostLines = sort == 1 ? MOST_DEEDS : MOST_FACTS;
            if (toldFeelers > MOST_FEELERS || toldTales > MOST_TALES || toldLines > mostLines) {
                note(3, place);
            }
        }

        private void lookAtNumber(int kind, int k) {
            int least = k == 0 ? LEAST_FIRST[kind] : LEAST_SECOND[kind];
            int most = k == 0 ? MOST_FIRST[kind] : MOST_SECOND[kind];
            if (number < least || number > most) {
                note(2, place);
            }
        }

        private boolean readTale() {
            int marks = 0;
            int size = 0;
            for (int k = 0; k < MOST_BYTES && token == NUMBER; k++) {
                lookAtNumber(TALE, 0);
                if (size >= MOST_MARKS) {
                    note(3, place);
                } else {
                    marks |= (number & 1) << size;
                }
                size++;
                nextToken();
            }
            if (size == 0 || token != SEMICOLON) {
                return refuse();
            }
            nextToken();
            if (wall != null) {
                wall.addTale(size, marks);
            }
            return true;
        }

        private void keepLine(int kind, int first, int second) {
            if (lines != null) {
                lines.addLine(kind - FIRST_KIND[sort], first, second);
            } else if (wall != null) {
                keepWallLine(kind, first, second);
            }
        }

        private void keepWallLine(int kind, int first, int second) {
            if (kind == WALL) {
                wall.resize(first, second);
                return;
            }
            farthestCell = Math.max(farthestCell, first);
            if (kind == DEAD) {
                wall.deaden(first, second);
            } else if (kind == SOURCE) {
                wall.putSource(first);
            } else if (kind == FEELER) {
                wall.addFeeler(first, second);
            }
        }
    }

    /** A WALL as it stands on a DAY, behind some DEEDS. */
    private static final class Stand {
        private Wall wall = new Wall();
        private int beats;
        private int hushed;
        private int[] force = new int[MOST_CELLS];
        private int[] ahead = new int[MOST_CELLS];
        private final int[] dead = new int[MOST_CELLS];
        private final int[] cell = new int[MOST_FEELERS];
        private final int[] felt = new int[MOST_FEELERS];
        private final int[] toldTales = new int[MOST_FEELERS];
        private final int[] marks = new int[MOST_FEELERS];
        private int mostFelt;
        int firstFelt;
        int busiest;
        int pushed;
        int silent;
        int strolls;

        void begin(Wall w) {
            wall = w;
            beats = 0;
            hushed = 0;
            Arrays.fill(force, 0);
            System.arraycopy(w.dead, 0, dead, 0, MOST_CELLS);
            System.arraycopy(w.feelerCell, 0, cell, 0, MOST_FEELERS);
            Arrays.fill(felt, 0);
            Arrays.fill(toldTales, 0);
            Arrays.fill(marks, 0);
            mostFelt = 0;
            firstFelt = NONE;
            busiest = NONE;
            pushed = 0;
            silent = 0;
            strolls = 0;
        }

        /** Does the first n DEEDS of a DAY, or as many as can be: how many. */
        int live(Wall w, Lines day, int n) {
            begin(w);
            for (int k = 0; k < n && k < day.size; k++) {
                if (!does(day.kind[k], day.first[k], day.second[k])) {
                    return k;
                }
            }
            return n;
        }

        /** Whether the DEED can be; it is done then. */
        boolean does(int kind, int first, int second) {
            switch (kind) {
                case PLAY:
                    beat(first);
                    return true;
                case WET:
                    return deaden(first, 1);
                case DRY:
                    return deaden(first, -1);
                case HUSH:
                case TOUCH:
                    return silence(first, kind == HUSH);
                case MOVE:
                    return stroll(first, second);
                default:
                    return false;
            }
        }

        private boolean deaden(int at, int more) {
            if (!wall.hasCell(at) || dead[at] + more < 1 || dead[at] + more > MOST_DEAD) {
                return false;
            }
            dead[at] += more;
            return true;
        }

        private boolean silence(int feeler, boolean on) {
            if (!wall.hasFeeler(feeler)) {
                return false;
            }
            hushed = on ? hushed | 1 << feeler : hushed & ~(1 << feeler);
            return true;
        }

        private boolean stroll(int feeler, int to) {
            if (!wall.hasFeeler(feeler) || !wall.hasCell(to)) {
                return false;
            }
            if (cell[feeler] != to) {
                strolls++;
            }
            cell[feeler] = to;
            return true;
        }

        private void beat(int push) {
            int[] last = force;
            force = ahead;
            ahead = last;
            passOn(wall, dead, ahead, force);
            force[wall.source] = Math.max(force[wall.source], push);
            int feeling = 0;
            for (int f = 0; f < wall.feelers; f++) {
                feeling += feel(f);
            }
            if (feeling == 0) {
                silent++;
            } else if (firstFelt == NONE) {
                firstFelt = beats;
            }
            if (busiest == NONE || feeling > mostFelt) {
                busiest = beats;
                mostFelt = feeling;
            }
            pushed += push;
            beats++;
        }

        /** The FEELER's MARK of this beat, and what it is TOLD by it. */
        private int feel(int feeler) {
            boolean feels = (hushed >> feeler & 1) == 0 && force[cell[feeler]] >= wall.tender[feeler];
            int mark = feels ? 1 : 0;
            felt[feeler] += mark;
            marks[feeler] = (marks[feeler] << 1 | mark) & (1 << MOST_MARKS) - 1;
            for (int k = 0; k < wall.tales; k++) {
                if (wall.taleLength[k] <= beats + 1 && endsWith(marks[feeler], k)) {
                    toldTales[feeler] |= 1 << k;
                }
            }
            return mark;
        }

        /** The last MARK is the lowest bit here, but a TALE's first one is. */
        private boolean endsWith(int row, int tale) {
            for (int k = 0; k < wall.taleLength[tale]; k++) {
                if ((row >> wall.taleLength[tale] - 1 - k & 1) != markOf(wall, tale, k)) {
                    return false;
                }
            }
            return true;
        }

        int keenest() {
            int best = NONE;
            for (int f = 0; f < wall.feelers; f++) {
                if (felt[f] > (best == NONE ? 0 : felt[best])) {
                    best = f;
                }
            }
            return best;
        }

        int answer(int what) {
            if (what >= 200) {
                return wall.hasCell(what - 200) ? dead[what - 200] : NO_SUCH;
            }
            if (what >= 100) {
                return wall.hasCell(what - 100) ? force[what - 100] : NO_SUCH;
            }
            if (what >= 40) {
                return wall.hasFeeler(what - 40) ? marks[what - 40] : NO_SUCH;
            }
            if (what >= 30) {
                return wall.hasFeeler(what - 30) ? toldTales[what - 30] : NO_SUCH;
            }
            if (what >= 20) {
                return wall.hasFeeler(what - 20) ? felt[what - 20] : NO_SUCH;
            }
            if (what >= 10) {
                return wall.hasFeeler(what - 10) ? cell[what - 10] : NO_SUCH;
            }
            switch (what) {
                case 0: return beats;
                case 1: return hushed;
                case 2: return couples();
                default: return NO_SUCH;
            }
        }

        private int couples() {
            int sum = 0;
            for (int f = 0; f < wall.feelers; f++) {
                sum += Integer.bitCount(toldTales[f]);
            }
            return sum;
        }
    }

    /** Numbers by a SEED. */
    private static final class Draw {
        private int x;

        Draw(int seed) {
            x = seed;
        }

        int below(int n) {
            x = x * 1103515245 + 12345;
            return n > 0 ? (x >>> 16) % n : 0;
        }
    }

    /**
     * FORCE of all CELLS at all beats of one push of 9 at beat 0. A lesser push has as much less FORCE everywhere,
     * and several pushes have the greatest of theirs, so this one echo tells of all TUNES.
     */
    private static final class Echo {
        private final int[][] force = new int[BEATS][MOST_CELLS];
        private final int[] dead = new int[MOST_CELLS];

        void sound(Wall w) {
            soundWith(w, NONE, 0);
        }

        /** As if one CELL were as DEAD as said (NONE: no one). */
        void soundWith(Wall w, int cell, int hard) {
            System.arraycopy(w.dead, 0, dead, 0, MOST_CELLS);
            if (w.hasCell(cell)) {
                dead[cell] = hard;
            }
            for (int beat = 0; beat < BEATS; beat++) {
                Arrays.fill(force[beat], 0);
            }
            force[0][w.source] = MOST_PUSH;
            // each beat takes 1 at least, so nothing is left behind as many beats as the push is strong
            for (int beat = 1; beat < MOST_PUSH; beat++) {
                passOn(w, dead, force[beat - 1], force[beat]);
            }
        }

        /** The beats (bits) at which one so tender, at that CELL, FEELS a push that is made at beat 0 alone. */
        int beatsFelt(int cell, int tender, int push) {
            int bits = 0;
            if (cell < 0 || cell >= MOST_CELLS) {
                return bits;
            }
            for (int beat = 0; beat < BEATS; beat++) {
                if (force[beat][cell] >= tender + MOST_PUSH - push) {
                    bits |= 1 << beat;
                }
            }
            return bits;
        }

        int allForce(Wall w, int tune) {
            int sum = 0;
            for (int beat = 0; beat < BEATS; beat++) {
                for (int cell = 0; cell < w.cells(); cell++) {
                    sum += forceBy(tune, beat, cell);
                }
            }
            return sum;
        }

        private int forceBy(int tune, int beat, int cell) {
            int greatest = 0;
            for (int pushed = 0; pushed <= beat && pushed < LONGEST_TUNE; pushed++) {
                if ((tune >> pushed & 1) == 1) {
                    greatest = Math.max(greatest, force[beat - pushed][cell]);
                }
            }
            return greatest;
        }
    }

    /** LOSS from one CELL to all, with up to so many CELLS dried to DEAD 1. */
    private static final class Paths {
        private final int[][] losses = new int[MOST_DRIED + 1][MOST_CELLS];

        void lay(Wall w, int from, int dry) {
            for (int k = 0; k <= dry && k <= MOST_DRIED; k++) {
                Arrays.fill(losses[k], FAR);
                if (from >= 0 && from < MOST_CELLS) {
                    losses[k][from] = 0;
                }
                if (k > 0) {
                    shorten(w, losses[k - 1], losses[k], true);
                }
                boolean changed = true;
                for (int round = 0; round < MOST_CELLS && changed; round++) {
                    changed = shorten(w, losses[k], losses[k], false);
                }
            }
        }

        int lossTo(int cell, int dry) {
            return cell >= 0 && cell < MOST_CELLS && dry >= 0 && dry <= MOST_DRIED ? losses[dry][cell] : FAR;
        }

        /** One step more from any CELL, into a dried one or into one as it is: whether a LOSS came to be less. */
        private static boolean shorten(Wall w, int[] from, int[] to, boolean dried) {
            boolean changed = false;
            for (int y = 0; y < w.rows; y++) {
                for (int x = 0; x < w.columns; x++) {
                    int cell = y * w.columns + x;
                    int less = leastBeside(w, from, x, y) + (dried ? 1 : w.dead[cell]);
                    if (less < to[cell]) {
                        to[cell] = less;
                        changed = true;
                    }
                }
            }
            return changed;
        }

        private static int leastBeside(Wall w, int[] from, int x, int y) {
            int cell = y * w.columns + x;
            int least = FAR;
            if (y > 0) {
                least = from[cell - w.columns];
            }
            if (y + 1 < w.rows) {
                least = Math.min(least, from[cell + w.columns]);
            }
            if (x > 0) {
                least = Math.min(least, from[cell - 1]);
            }
            if (x + 1 < w.columns) {
                least = Math.min(least, from[cell + 1]);
            }
            return least;
        }
    }
}
