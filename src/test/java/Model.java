import java.util.ArrayList;
import java.util.Arrays;
import java.util.HashMap;
import java.util.List;
import java.util.Map;

/**
 * The document again, as plainly as can be and in another way than the class: every TUNE, duet and dried wall is gone
 * through beat by beat. Its methods bear the names and answers of the class's face.
 */
final class Model {
    static final class MWall {
        int w = 3, h = 2, source = 0;
        int[] dead = new int[32];
        List<int[]> feelers = new ArrayList<>();
        List<int[]> tales = new ArrayList<>();

        MWall() { Arrays.fill(dead, 2); }

        int cells() { return w * h; }

        boolean cell(int c) { return c >= 0 && c < cells(); }

        boolean feeler(int f) { return f >= 0 && f < feelers.size(); }

        boolean tale(int t) { return t >= 0 && t < tales.size(); }

        boolean beside(int a, int b) {
            return Math.abs(a % w - b % w) + Math.abs(a / w - b / w) == 1;
        }

        MWall copy() {
            MWall o = new MWall();
            o.w = w; o.h = h; o.source = source; o.dead = dead.clone(); o.feelers = feelers; o.tales = tales;
            return o;
        }
    }

    /** A day at a wall: its own copies of all that deeds change, and every MARK ever made. */
    static final class MState {
        final MWall wall;
        int[] dead, cell;
        int[] force = new int[32];
        boolean[] hushed = new boolean[6];
        List<List<Integer>> marks = new ArrayList<>();
        int beats = 0, pushed = 0, strolls = 0, allForce = 0;

        MState(MWall wall) {
            this.wall = wall;
            dead = wall.dead.clone();
            cell = new int[wall.feelers.size()];
            for (int f = 0; f < cell.length; f++) { cell[f] = wall.feelers.get(f)[0]; marks.add(new ArrayList<>()); }
        }

        void beat(int push) {
            int[] now = new int[32];
            for (int c = 0; c < wall.cells(); c++) {
                int best = 0;
                for (int o = 0; o < wall.cells(); o++) if (wall.beside(c, o)) best = Math.max(best, force[o]);
                now[c] = Math.max(0, best - dead[c]);
                if (c == wall.source) now[c] = Math.max(now[c], push);
                allForce += now[c];
            }
            force = now;
            for (int f = 0; f < cell.length; f++)
                marks.get(f).add(!hushed[f] && force[cell[f]] >= wall.feelers.get(f)[1] ? 1 : 0);
            beats++;
            pushed += push;
        }

        boolean act(int kind, int a, int b) {
            switch (kind) {
                case 0: beat(a); return true;
                case 1: if (!wall.cell(a) || dead[a] >= 9) return false; dead[a]++; return true;
                case 2: if (!wall.cell(a) || dead[a] <= 1) return false; dead[a]--; return true;
                case 3: if (!wall.feeler(a)) return false; hushed[a] = true; return true;
                case 4: if (!wall.feeler(a)) return false; hushed[a] = false; return true;
                default:
                    if (!wall.feeler(a) || !wall.cell(b)) return false;
                    if (cell[a] != b) strolls++;
                    cell[a] = b;
                    return true;
            }
        }

        boolean told(int f, int t) {
            int[] tale = wall.tales.get(t);
            for (int end = tale.length; end <= beats; end++) {
                boolean same = true;
                for (int i = 0; i < tale.length; i++) same &= marks.get(f).get(end - tale.length + i) == tale[i];
                if (same) return true;
            }
            return false;
        }

        int toldBits(int f) {
            int bits = 0;
            for (int t = 0; t < wall.tales.size(); t++) if (told(f, t)) bits |= 1 << t;
            return bits;
        }

        int felt(int f) {
            int n = 0;
            for (int m : marks.get(f)) n += m;
            return n;
        }

        int couples() {
            int n = 0;
            for (int f = 0; f < cell.length; f++) n += Integer.bitCount(toldBits(f));
            return n;
        }

        int answer(int what) {
            if (what == 0) return beats;
            if (what == 1) { int b = 0; for (int f = 0; f < 6; f++) if (hushed[f]) b |= 1 << f; return b; }
            if (what == 2) return couples();
            for (int f = 0; f < cell.length; f++) {
                if (what == 10 + f) return cell[f];
                if (what == 20 + f) return felt(f);
                if (what == 30 + f) return toldBits(f);
                if (what == 40 + f) {
                    int bits = 0;
                    for (int i = 0; i < 6; i++) {
                        int at = beats - 1 - i;
                        if (at >= 0 && marks.get(f).get(at) == 1) bits |= 1 << i;
                    }
                    return bits;
                }
            }
            for (int c = 0; c < wall.cells(); c++) {
                if (what == 100 + c) return force[c];
                if (what == 200 + c) return dead[c];
            }
            return -2;
        }
    }

    static final class Image {
        List<MWall> walls; List<List<int[]>> days, logs;
        byte[] tape; int fault, place;
    }

    List<MWall> walls = new ArrayList<>();
    List<List<int[]>> days = new ArrayList<>(), logs = new ArrayList<>();
    byte[] tape = new byte[0];
    int fault = 0, place = -1;
    final Image[] images = new Image[3];

    int feed(int a, int b, int c, int d, int e) {
        if (tape.length + 20 > 600) return -1;
        byte[] longer = Arrays.copyOf(tape, tape.length + 20);
        java.nio.ByteBuffer.wrap(longer, tape.length, 20).putInt(a).putInt(b).putInt(c).putInt(d).putInt(e);
        tape = longer;
        return tape.length;
    }

    int end(int n) {
        if (n < 0 || n > tape.length) return -1;
        tape = Arrays.copyOf(tape, n);
        return n;
    }

    // ---- texts: all tokens first, then the grammar, then the numbers ----

    private static final Map<String, int[]> LINES = new HashMap<>();
    static {
        // word: sort, kind, then least and most of each number; a tale's numbers stand once
        LINES.put("wall", new int[] {0, 0, 1, 8, 1, 4});
        LINES.put("dead", new int[] {0, 1, 0, 31, 1, 9});
        LINES.put("source", new int[] {0, 2, 0, 31});
        LINES.put("feeler", new int[] {0, 3, 0, 31, 1, 9});
        LINES.put("tale", new int[] {0, 4, 0, 1});
        LINES.put("play", new int[] {1, 0, 0, 9});
        LINES.put("wet", new int[] {1, 1, 0, 31});
        LINES.put("dry", new int[] {1, 2, 0, 31});
        LINES.put("hush", new int[] {1, 3, 0, 5});
        LINES.put("touch", new int[] {1, 4, 0, 5});
        LINES.put("move", new int[] {1, 5, 0, 5, 0, 31});
        LINES.put("felt", new int[] {2, 0, 0, 5, 0, 19});
        LINES.put("not", new int[] {2, 1, 0, 5, 0, 19});
    }

    private static final class Bad extends Exception {
        final int fault, place;
        Bad(int fault, int place) { this.fault = fault; this.place = place; }
    }

    int text(int sort, int at) {
        fault = 0;
        place = -1;
        String s = new String(tape, java.nio.charset.StandardCharsets.ISO_8859_1);
        tape = new byte[0];
        if (sort < 0 || sort > 2) return -2;
        int there = count(sort);
        if (at == -1 ? there == 2 : at < 0 || at >= there) return -2;
        try {
            List<String> tokens = new ArrayList<>();
            List<Integer> places = new ArrayList<>();
            split(s, tokens, places);
            List<int[]> spans = spans(sort, tokens, places);
            faults(sort, tokens, places, spans);
            Object made = sort == 0 ? makeWall(tokens, spans, s.length()) : makeLines(tokens, spans);
            int number = at == -1 ? there : at;
            keep(sort, number, made);
            return number;
        } catch (Bad b) {
            fault = b.fault;
            place = b.place;
            return -1;
        }
    }

    @SuppressWarnings("unchecked")
    private void keep(int sort, int number, Object made) {
        List<Object> list = (List<Object>) (List<?>) (Object) (sort == 0 ? walls : sort == 1 ? days : logs);
        if (number == list.size()) list.add(made); else list.set(number, made);
    }

    private static void split(String s, List<String> tokens, List<Integer> places) {
        java.util.regex.Matcher m = java.util.regex.Pattern.compile("[a-z]+|[0-9]+|[^ \\n]", java.util.regex.Pattern.DOTALL).matcher(s);
        while (m.find()) { tokens.add(m.group()); places.add(m.start()); }
        tokens.add("");
        places.add(s.length());
    }

    private static boolean isNumber(String t) { return t.matches("[0-9]{1,2}"); }

    /** Of each line its first token and the one behind its last number. */
    private static List<int[]> spans(int sort, List<String> tokens, List<Integer> places) throws Bad {
        List<int[]> spans = new ArrayList<>();
        int i = 0;
        while (!tokens.get(i).isEmpty()) {
            int[] line = LINES.get(tokens.get(i));
            if (line == null || line[0] != sort) throw new Bad(1, places.get(i));
            int from = i++;
            int least = (line.length - 2) / 2;
            boolean tale = tokens.get(from).equals("tale");
            int n = 0;
            while (isNumber(tokens.get(i)) && (tale || n < least)) { n++; i++; }
            if (n < least || !tokens.get(i).equals(";")) throw new Bad(1, places.get(i));
            spans.add(new int[] {from, i});
            i++;
        }
        return spans;
    }

    private static void faults(int sort, List<String> tokens, List<Integer> places, List<int[]> spans) throws Bad {
        List<int[]> all = new ArrayList<>();
        Map<String, Integer> seen = new HashMap<>();
        for (int[] span : spans) {
            String word = tokens.get(span[0]);
            int[] line = LINES.get(word);
            String group = sort == 0 ? word : "line";
            int limit = sort == 1 ? 40 : sort == 2 ? 8 : word.equals("feeler") || word.equals("tale") ? 6 : 1000;
            if (seen.merge(group, 1, Integer::sum) > limit) all.add(new int[] {places.get(span[0]), 3});
            for (int i = span[0] + 1; i < span[1]; i++) {
                int k = word.equals("tale") ? 0 : i - span[0] - 1;
                int number = Integer.parseInt(tokens.get(i));
                if (number < line[2 + 2 * k] || number > line[3 + 2 * k]) all.add(new int[] {places.get(i), 2});
                if (word.equals("tale") && i - span[0] > 6) all.add(new int[] {places.get(i), 3});
            }
        }
        all.sort((x, y) -> x[0] != y[0] ? x[0] - y[0] : x[1] - y[1]);
        if (!all.isEmpty()) throw new Bad(all.get(0)[1], all.get(0)[0]);
    }

    private static int num(List<String> tokens, int i) { return Integer.parseInt(tokens.get(i)); }

    private static MWall makeWall(List<String> tokens, List<int[]> spans, int length) throws Bad {
        MWall w = new MWall();
        List<Integer> toldOf = new ArrayList<>();
        for (int[] span : spans) {
            int a = num(tokens, span[0] + 1);
            switch (tokens.get(span[0])) {
                case "wall": w.w = a; w.h = num(tokens, span[0] + 2); break;
                case "dead": w.dead[a] = num(tokens, span[0] + 2); toldOf.add(a); break;
                case "source": w.source = a; toldOf.add(a); break;
                case "feeler": w.feelers.add(new int[] {a, num(tokens, span[0] + 2)}); toldOf.add(a); break;
                default:
                    int[] tale = new int[span[1] - span[0] - 1];
                    for (int i = 0; i < tale.length; i++) tale[i] = num(tokens, span[0] + 1 + i);
                    w.tales.add(tale);
            }
        }
        for (int c : toldOf) if (!w.cell(c)) throw new Bad(4, length);
        return w;
    }

    private static List<int[]> makeLines(List<String> tokens, List<int[]> spans) {
        List<int[]> lines = new ArrayList<>();
        for (int[] span : spans)
            lines.add(new int[] {LINES.get(tokens.get(span[0]))[1], num(tokens, span[0] + 1),
                span[1] - span[0] > 2 ? num(tokens, span[0] + 2) : -1});
        return lines;
    }

    int fault(int what) { return what == 0 ? fault : what == 1 ? place : -1; }

    int count(int sort) { return sort == 0 ? walls.size() : sort == 1 ? days.size() : sort == 2 ? logs.size() : -2; }

    boolean image(int k) {
        if (k < 0 || k > 2) return false;
        Image i = images[k] = new Image();
        i.walls = new ArrayList<>(walls); i.days = new ArrayList<>(days); i.logs = new ArrayList<>(logs);
        i.tape = tape.clone(); i.fault = fault; i.place = place;
        return true;
    }

    boolean again(int k) {
        if (k < 0 || k > 2 || images[k] == null) return false;
        Image i = images[k];
        walls = new ArrayList<>(i.walls); days = new ArrayList<>(i.days); logs = new ArrayList<>(i.logs);
        tape = i.tape.clone(); fault = i.fault; place = i.place;
        return true;
    }

    // ---- what was told ----

    private MWall w(int k) { return k >= 0 && k < walls.size() ? walls.get(k) : null; }
    private List<int[]> day(int k) { return k >= 0 && k < days.size() ? days.get(k) : null; }
    private List<int[]> log(int k) { return k >= 0 && k < logs.size() ? logs.get(k) : null; }

    int wall(int wall, int what) {
        MWall m = w(wall);
        if (m == null) return -1;
        if (what == 0) return m.w;
        if (what == 1) return m.h;
        if (what == 2) return m.source;
        if (what == 3) return m.feelers.size();
        if (what == 4) return m.tales.size();
        for (int f = 0; f < m.feelers.size(); f++) {
            if (what == 10 + f) return m.feelers.get(f)[0];
            if (what == 20 + f) return m.feelers.get(f)[1];
        }
        for (int t = 0; t < m.tales.size(); t++) {
            if (what == 30 + t) return m.tales.get(t).length;
            if (what == 40 + t) {
                int bits = 0;
                for (int i = 0; i < m.tales.get(t).length; i++) bits += m.tales.get(t)[i] << i;
                return bits;
            }
        }
        for (int c = 0; c < m.cells(); c++) if (what == 100 + c) return m.dead[c];
        return -1;
    }

    private static int line(List<int[]> lines, int k, int what) {
        if (lines == null) return -2;
        if (k == -1) return what == 0 ? lines.size() : -2;
        return k < 0 || k >= lines.size() || what < 0 || what > 2 ? -2 : lines.get(k)[what];
    }

    int deed(int day, int k, int what) { return line(day(day), k, what); }
    int fact(int log, int k, int what) { return line(log(log), k, what); }

    // ---- days ----

    private static int live(MState s, List<int[]> day, int n) {
        for (int k = 0; k < n; k++) if (!s.act(day.get(k)[0], day.get(k)[1], day.get(k)[2])) return k;
        return n;
    }

    int stop(int wall, int day) {
        if (w(wall) == null || day(day) == null) return -1;
        return live(new MState(w(wall)), day(day), day(day).size());
    }

    int state(int wall, int day, int n, int what) {
        if (w(wall) == null || day(day) == null || n < 0 || n > stop(wall, day)) return -2;
        MState s = new MState(w(wall));
        live(s, day(day), n);
        return s.answer(what);
    }

    int after(int wall, int day, int what) {
        if (w(wall) == null || day(day) == null) return -2;
        MState s = new MState(w(wall));
        live(s, day(day), stop(wall, day));
        int[] by = new int[s.beats];
        for (int b = 0; b < s.beats; b++) for (List<Integer> m : s.marks) by[b] += m.get(b);
        switch (what) {
            case 0: for (int b = 0; b < by.length; b++) if (by[b] > 0) return b; return -1;
            case 1: { int best = -1; for (int b = 0; b < by.length; b++) if (best < 0 || by[b] > by[best]) best = b; return best; }
            case 2: {
                int best = -1;
                for (int f = 0; f < s.cell.length; f++) if (s.felt(f) > 0 && (best < 0 || s.felt(f) > s.felt(best))) best = f;
                return best;
            }
            case 3: return s.pushed;
            case 4: { int n = 0; for (int x : by) if (x == 0) n++; return n; }
            case 5: return s.strolls;
            default: return -2;
        }
    }

    int drawn(int wall, int seed, int n, int what) {
        MWall m = w(wall);
        if (m == null || n < 0 || n > 60) return -2;
        MState s = new MState(m);
        long[] x = {seed & 0xFFFFFFFFL};
        for (int k = 0; k < n; k++) {
            int kind = draw(x, 10);
            if (kind < 5) s.act(0, draw(x, 10), -1);
            else if (kind < 7) s.act(kind - 4, draw(x, m.cells()), -1);
            else if (m.feelers.isEmpty()) continue;
            else if (kind < 9) s.act(kind - 4, draw(x, m.feelers.size()), -1);
            else { int f = draw(x, m.feelers.size()); s.act(5, f, draw(x, m.cells())); }
        }
        return s.answer(what);
    }

    private static int draw(long[] x, int n) {
        x[0] = (x[0] * 1103515245L + 12345L) & 0xFFFFFFFFL;
        return (int) ((x[0] >> 16) % n);
    }

    // ---- tunes ----

    private static MState pushes(MWall m, int... pushes) {
        MState s = new MState(m);
        for (int b = 0; b < 20; b++) s.beat(b < pushes.length ? pushes[b] : 0);
        return s;
    }

    private static MState byTune(MWall m, int n, int tune) {
        int[] p = new int[n];
        for (int b = 0; b < n; b++) p[b] = (tune >> b) % 2 * 9;
        return pushes(m, p);
    }

    private static boolean isN(int n) { return n >= 1 && n <= 8; }

    int tune(int wall, int n, int tune, int what) {
        MWall m = w(wall);
        if (m == null || !isN(n) || tune < 0 || tune >= 1 << n) return -2;
        MState s = byTune(m, n, tune);
        if (what >= 0 && what < 20) {
            int bits = 0;
            for (int f = 0; f < s.cell.length; f++) bits |= s.marks.get(f).get(what) << f;
            return bits;
        }
        if (what == 40) return s.allForce;
        return what >= 30 && m.feeler(what - 30) ? s.toldBits(what - 30) : -2;
    }

    private static int reachOf(MWall m, int f) {
        for (int p = 1; p <= 9; p++) if (pushes(m, p).felt(f) > 0) return p;
        return -1;
    }

    int reach(int wall, int f, boolean when) {
        MWall m = w(wall);
        if (m == null || !m.feeler(f)) return -1;
        int r = reachOf(m, f);
        return r < 0 || !when ? r : pushes(m, r).marks.get(f).indexOf(1);
    }

    int play(int wall, int f, int t, boolean which) {
        MWall m = w(wall);
        if (m == null || !m.feeler(f) || !m.tale(t)) return -1;
        for (int n = 1; n <= 8; n++)
            for (int tune = 0; tune < 1 << n; tune++)
                if (byTune(m, n, tune).told(f, t)) return which ? tune : n;
        return -1;
    }

    int most(int wall, int n, boolean which) {
        MWall m = w(wall);
        if (m == null || !isN(n)) return -1;
        int best = -1, at = -1;
        for (int tune = 0; tune < 1 << n; tune++) {
            int c = byTune(m, n, tune).couples();
            if (c > best) { best = c; at = tune; }
        }
        return which ? at : best;
    }

    int loud(int wall, int n, boolean which) {
        MWall m = w(wall);
        if (m == null || !isN(n)) return -1;
        int best = -1, at = -1;
        for (int tune = 0; tune < 1 << n; tune++) {
            MState s = byTune(m, n, tune);
            int c = 0;
            for (int f = 0; f < s.cell.length; f++) c += s.felt(f);
            if (c > best) { best = c; at = tune; }
        }
        return which ? at : best;
    }

    int apart(int wall, int a, int b, int n) {
        MWall m = w(wall);
        if (m == null || !isN(n) || !m.feeler(a) || !m.feeler(b) || a == b) return -1;
        int c = 0;
        for (int tune = 0; tune < 1 << n; tune++) {
            MState s = byTune(m, n, tune);
            if (!s.marks.get(a).equals(s.marks.get(b))) c++;
        }
        return c;
    }

    private static int value(MWall m, int a, int b, int n, int[] so) {
        if (so.length == n) { MState s = pushes(m, so); return s.felt(a) - s.felt(b); }
        int best = 0;
        for (int k = 0; k < 4; k++) {
            int[] next = Arrays.copyOf(so, so.length + 1);
            next[so.length] = 3 * k;
            int v = value(m, a, b, n, next);
            if (k == 0 || (so.length % 2 == 0 ? v > best : v < best)) best = v;
        }
        return best;
    }

    int duet(int wall, int a, int b, int n, boolean first) {
        MWall m = w(wall);
        if (m == null || n < 0 || n > 4 || !m.feeler(a) || !m.feeler(b) || a == b) return -99;
        int all = value(m, a, b, n, new int[0]);
        if (!first) return all;
        if (n == 0) return -1;
        for (int p = 0; p < 10; p += 3) if (value(m, a, b, n, new int[] {p}) == all) return p;
        throw new IllegalStateException();
    }

    private static long part(java.math.BigInteger n, java.math.BigInteger d, boolean under) {
        java.math.BigInteger g = n.gcd(d);
        return (under ? d : n).divide(g).longValueExact();
    }

    long arm(int wall, int f, int p, int n, boolean under) {
        MWall m = w(wall);
        if (m == null || !m.feeler(f) || p < 0 || p > 10 || n < 0 || n > 12) return -1;
        java.math.BigInteger sum = java.math.BigInteger.ZERO;
        for (int ways = 0; ways < 1 << n; ways++) {
            int lost = Integer.bitCount(ways);
            if (pushes(m, Math.max(0, 9 - lost)).felt(f) == 0) continue;
            sum = sum.add(java.math.BigInteger.valueOf(p).pow(lost).multiply(java.math.BigInteger.valueOf(10 - p).pow(n - lost)));
        }
        return part(sum, java.math.BigInteger.TEN.pow(n), under);
    }

    /** Two readers go on mark by mark, each somewhere in a tale; they meet at two ends, having once chosen unlike. */
    int code(int wall) {
        MWall m = w(wall);
        if (m == null) return -1;
        java.util.Set<List<Integer>> seen = new java.util.HashSet<>();
        java.util.Set<List<Integer>> layer = new java.util.HashSet<>();
        layer.add(List.of(-1, 0, -1, 0, 0));
        for (int length = 1; !layer.isEmpty(); length++) {
            java.util.Set<List<Integer>> next = new java.util.HashSet<>();
            for (List<Integer> at : layer)
                for (int[] one : steps(m, at.get(0), at.get(1)))
                    for (int[] two : steps(m, at.get(2), at.get(3))) {
                        if (one[2] != two[2]) continue;
                        boolean both = at.get(0) < 0 && at.get(2) < 0;
                        int unlike = at.get(4) == 1 || (at.get(0) < 0) != (at.get(2) < 0) || both && one[3] != two[3] ? 1 : 0;
                        if (unlike == 1 && one[0] < 0 && two[0] < 0) return length;
                        List<Integer> to = List.of(one[0], one[1], two[0], two[1], unlike);
                        if (seen.add(to)) next.add(to);
                    }
            layer = next;
        }
        return 0;
    }

    /** Where a reader may be behind one more mark (tale and offset, -1 between tales), the mark, and the tale read in. */
    private static List<int[]> steps(MWall m, int tale, int offset) {
        List<int[]> all = new ArrayList<>();
        for (int t = 0; t < m.tales.size(); t++) {
            if (tale >= 0 && t != tale) continue;
            int[] marks = m.tales.get(t);
            boolean ends = offset + 1 == marks.length;
            all.add(new int[] {ends ? -1 : t, ends ? 0 : offset + 1, marks[offset], t});
        }
        return all;
    }

    long ways(int wall, int n) {
        MWall m = w(wall);
        if (m == null || n < 0 || n > 20) return -1;
        return rowsOf(m, n, new HashMap<>());
    }

    private static long rowsOf(MWall m, int n, Map<Integer, Long> known) {
        if (n <= 0) return n == 0 ? 1 : 0;
        if (known.containsKey(n)) return known.get(n);
        long sum = 0;
        for (int[] tale : m.tales) sum += rowsOf(m, n - tale.length, known);
        known.put(n, sum);
        return sum;
    }

    // ---- logs ----

    private static boolean so(MState s, List<int[]> log) {
        for (int[] fact : log) {
            if (!s.wall.feeler(fact[1])) return false;
            if (s.marks.get(fact[1]).get(fact[2]) != 1 - fact[0]) return false;
        }
        return true;
    }

    private static List<Integer> fit(MWall m, List<int[]> log, int n) {
        List<Integer> fit = new ArrayList<>();
        for (int tune = 0; tune < 1 << n; tune++) if (so(byTune(m, n, tune), log)) fit.add(tune);
        return fit;
    }

    int fits(int wall, int log, int n, int what) {
        if (w(wall) == null || log(log) == null || !isN(n)) return -2;
        MWall m = w(wall);
        List<Integer> fit = fit(m, log(log), n);
        if (what == 0) return fit.size();
        if (what == 1 || what == 2) {
            int bits = 0;
            for (int b = 0; b < n; b++) {
                int pushed = 0;
                for (int tune : fit) pushed += tune >> b & 1;
                if (!fit.isEmpty() && pushed == (what == 1 ? fit.size() : 0)) bits |= 1 << b;
            }
            return bits;
        }
        if (what == 3) {
            if (fit.isEmpty() || m.feelers.isEmpty()) return -1;
            List<MState> states = new ArrayList<>();
            for (int tune : fit) states.add(byTune(m, n, tune));
            int best = -1, least = 1000;
            for (int at = 0; at < 200; at++) {
                if (at % 10 >= m.feelers.size()) continue;
                int felt = 0;
                for (MState s : states) felt += s.marks.get(at % 10).get(at / 10);
                int greater = Math.max(felt, fit.size() - felt);
                if (greater < least) { least = greater; best = at; }
            }
            return best;
        }
        return what >= 10 && what - 10 < fit.size() ? fit.get(what - 10) : -2;
    }

    int brick(int wall, int log, int cell, int n, int tune) {
        MWall m = w(wall);
        if (m == null || log(log) == null || !m.cell(cell) || !isN(n) || tune < 0 || tune >= 1 << n) return -1;
        int bits = 0;
        for (int d = 1; d <= 9; d++) {
            MWall o = m.copy();
            o.dead[cell] = d;
            if (so(byTune(o, n, tune), log(log))) bits |= 1 << d;
        }
        return bits;
    }

    long odds(int wall, int log, int n, int beat, boolean under) {
        if (w(wall) == null || log(log) == null || !isN(n) || beat < 0 || beat >= n) return -1;
        List<Integer> fit = fit(w(wall), log(log), n);
        if (fit.isEmpty()) return -1;
        int pushed = 0;
        for (int tune : fit) pushed += tune >> beat & 1;
        return part(java.math.BigInteger.valueOf(pushed), java.math.BigInteger.valueOf(fit.size()), under);
    }

    int few(int wall, int log, int n, boolean most) {
        if (w(wall) == null || log(log) == null || !isN(n)) return -1;
        java.util.IntSummaryStatistics s = fit(w(wall), log(log), n).stream().mapToInt(Integer::bitCount).summaryStatistics();
        return s.getCount() == 0 ? -1 : most ? s.getMax() : s.getMin();
    }

    // ---- the wall ----

    private static int path(MWall m, int a, int b, boolean steps) {
        int[] d = new int[32];
        Arrays.fill(d, 9999);
        d[a] = 0;
        for (int round = 0; round < 40; round++)
            for (int c = 0; c < m.cells(); c++)
                for (int o = 0; o < m.cells(); o++)
                    if (m.beside(c, o)) d[o] = Math.min(d[o], d[c] + (steps ? 1 : m.dead[o]));
        return d[b];
    }

    int loss(int wall, int a, int b, boolean steps) {
        MWall m = w(wall);
        return m == null || !m.cell(a) || !m.cell(b) ? -1 : path(m, a, b, steps);
    }

    int shade(int wall, int what) {
        MWall m = w(wall);
        if (m == null) return -2;
        switch (what) {
            case 0: case 1: {
                int many = 0, first = -1;
                for (int c = 0; c < m.cells(); c++) {
                    MState s = new MState(m);
                    int sum = 0;
                    for (int b = 0; b < 20; b++) { s.beat(b == 0 ? 9 : 0); sum += s.force[c]; }
                    if (sum == 0) { many++; if (first < 0) first = c; }
                }
                return what == 0 ? many : first;
            }
            case 2: case 3: {
                int best = 0;
                for (int c = 0; c < m.cells(); c++) if (path(m, m.source, c, false) > path(m, m.source, best, false)) best = c;
                return what == 2 ? best : path(m, m.source, best, false);
            }
            case 4: { int best = 0; for (int c = 0; c < m.cells(); c++) if (m.dead[c] > m.dead[best]) best = c; return best; }
            case 5: { int sum = 0; for (int c = 0; c < m.cells(); c++) sum += m.dead[c]; return sum; }
            case 6: {
                for (int t = 1; t <= 9; t++)
                    for (int f = 0; f < m.feelers.size(); f++) if (m.feelers.get(f)[1] == t) return f;
                return -1;
            }
            case 7: {
                int n = 0;
                for (int a = 0; a < m.feelers.size(); a++)
                    for (int b = 0; b < a; b++) if (m.feelers.get(a)[0] == m.feelers.get(b)[0]) n++;
                return n;
            }
            case 8: {
                int n = 0;
                for (int a = 0; a < m.cells(); a++)
                    for (int b = 0; b < a; b++) if (m.beside(a, b) && m.dead[a] != m.dead[b]) n++;
                return n;
            }
            default: return -2;
        }
    }

    int keys(int wall, int f, boolean first) {
        MWall m = w(wall);
        if (m == null || !m.feeler(f) || reachOf(m, f) < 0) return -2;
        int many = 0, least = -1;
        for (int c = 0; c < m.cells(); c++) {
            MWall o = m.copy();
            o.dead[c] = 9;
            if (reachOf(o, f) < 0) { many++; if (least < 0) least = c; }
        }
        return first ? least : many;
    }

    /** Every choice of up to k cells that are not yet 1 is tried. */
    int dried(int wall, int f, int k) {
        MWall m = w(wall);
        if (m == null || !m.feeler(f) || k < 0 || k > 8) return -1;
        return dry(m, f, k, 0);
    }

    private static int dry(MWall m, int f, int k, int from) {
        int best = reachOf(m, f);
        if (k == 0) return best;
        for (int c = from; c < m.cells(); c++) {
            if (m.dead[c] == 1) continue;
            MWall o = m.copy();
            o.dead[c] = 1;
            int r = dry(o, f, k - 1, c + 1);
            if (r > 0 && (best < 0 || r < best)) best = r;
        }
        return best;
    }

    int hold(int wall, int f, int push, int what) {
        MWall m = w(wall);
        if (m == null || !m.feeler(f) || push < 0 || push > 9) return -2;
        int[] p = new int[20];
        Arrays.fill(p, push);
        MState s = pushes(m, p);
        if (what == 0) return s.felt(f);
        if (what == 1) return s.marks.get(f).indexOf(1);
        if (what != 2) return -2;
        StringBuilder row = new StringBuilder();
        for (int x : s.marks.get(f)) row.append(x);
        int longest = 0;
        for (String part : row.toString().split("0")) longest = Math.max(longest, part.length());
        return longest;
    }

    int rhyme(int wall, int a, int b, int what) {
        MWall m = w(wall);
        if (m == null || !m.tale(a) || !m.tale(b)) return -1;
        StringBuilder sa = new StringBuilder(), sb = new StringBuilder();
        for (int x : m.tales.get(a)) sa.append(x);
        for (int x : m.tales.get(b)) sb.append(x);
        String x = sa.toString(), y = sb.toString();
        int best = 0;
        switch (what) {
            case 0: for (int i = 0; i <= x.length(); i++) if (y.endsWith(x.substring(x.length() - i))) best = i; return best;
            case 1: for (int i = 0; i <= x.length(); i++) if (y.startsWith(x.substring(0, i))) best = i; return best;
            case 2: return y.contains(x) ? 1 : 0;
            case 3:
                for (int i = 0; i < x.length(); i++)
                    for (int j = i; j <= x.length(); j++) if (y.contains(x.substring(i, j))) best = Math.max(best, j - i);
                return best;
            case 4: return sb.reverse().toString().equals(x) ? 1 : 0;
            default: return -1;
        }
    }
}
