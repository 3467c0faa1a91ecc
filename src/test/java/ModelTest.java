import java.nio.ByteBuffer;
import java.nio.charset.StandardCharsets;
import java.util.Random;

/** Many runs of drawn calls (always the same ones), the class beside the model of the document. */
public final class ModelTest {
    private static final Random R = new Random(20261117);
    private static DeafWall x;
    private static Model m;
    private static String wallText = "";
    private static int run;

    private static int pick(int n) { return R.nextInt(n); }

    /** Mostly within, sometimes at or over the edges. */
    private static int near(int least, int most) {
        int p = pick(40);
        if (p == 0) return least - 1;
        if (p == 1) return most + 1;
        if (p == 2) return R.nextInt();
        return least + pick(Math.max(1, most - least + 1));
    }

    private static int wall() { return pick(30) == 0 ? near(-1, 2) : pick(Math.max(1, m.count(0))); }
    private static int day() { return pick(30) == 0 ? near(-1, 2) : pick(Math.max(1, m.count(1))); }
    private static int log() { return pick(30) == 0 ? near(-1, 2) : pick(Math.max(1, m.count(2))); }
    private static int feeler(int w) { return near(0, Math.max(0, m.wall(w, 3) - 1)); }
    private static int tale(int w) { return near(0, Math.max(0, m.wall(w, 4) - 1)); }
    private static int cell(int w) { return near(0, Math.max(0, m.wall(w, 0) * m.wall(w, 1) - 1)); }

    // ---- texts ----

    private static String wallOf(boolean small) {
        StringBuilder s = new StringBuilder();
        int w = small ? 1 + pick(4) : 1 + pick(8), h = small ? 1 + pick(3) : 1 + pick(4);
        boolean told = pick(8) != 0;
        if (told) s.append("wall " + w + " " + h + ";"); else { w = 3; h = 2; }
        int cells = w * h, hard = 1 + pick(9);
        for (int k = pick(14); k > 0; k--) s.append("dead " + pick(cells) + " " + (1 + pick(hard)) + ";");
        for (int k = pick(3); k > 0; k--) s.append("source " + pick(cells) + ";");
        for (int k = pick(6) + pick(2); k > 0; k--) s.append("feeler " + pick(cells) + " " + (1 + pick(pick(4) == 0 ? 9 : 4)) + ";");
        for (int k = pick(6) + pick(2); k > 0; k--) {
            s.append("tale");
            for (int i = 1 + pick(6); i > 0; i--) s.append(" " + pick(2));
            s.append(";");
        }
        return s.toString();
    }

    private static String dayOf() {
        StringBuilder s = new StringBuilder();
        int w = m.count(0) > 0 ? pick(m.count(0)) : -1;
        int cells = w < 0 ? 6 : m.wall(w, 0) * m.wall(w, 1), feelers = w < 0 ? 3 : Math.max(1, m.wall(w, 3));
        int stray = pick(3) == 0 ? 1 : 0;
        for (int k = pick(41); k > 0; k--) {
            int c = pick(Math.min(32, cells + stray)), f = pick(Math.min(6, feelers + stray));
            switch (pick(9)) {
                case 0: s.append("wet " + c + ";"); break;
                case 1: s.append("dry " + c + ";"); break;
                case 2: s.append("hush " + f + ";"); break;
                case 3: s.append("touch " + f + ";"); break;
                case 4: s.append("move " + f + " " + c + ";"); break;
                default: s.append("play " + (pick(2) == 0 ? 9 : pick(10)) + ";");
            }
        }
        return s.toString();
    }

    private static String logOf() {
        StringBuilder s = new StringBuilder();
        int w = m.count(0) > 0 ? pick(m.count(0)) : -1;
        int feelers = w < 0 ? 3 : Math.max(1, m.wall(w, 3));
        for (int k = pick(6); k > 0; k--)
            s.append((pick(3) == 0 ? "felt " : "not ") + pick(pick(20) == 0 ? 6 : feelers) + " " + pick(pick(2) == 0 ? 20 : 8) + ";");
        return s.toString();
    }

    private static final String[] BITS = {" ", "\n", ";", "0", "1", "9", "31", "32", "5", "6", "20", "100", "wall", "dead",
        "source", "feeler", "tale", "play", "wet", "dry", "hush", "touch", "move", "felt", "not", "a", "z", "A", "\u00e9", "\t",
        "tale 1 0 1 0 1 0 1;", "tale 0 0 0 0 0 0 2;", "feeler 0 1;feeler 0 2;", "not 0 1;not 0 2;", "play 1;play 2;"};

    private static String spoil(String s) {
        StringBuilder b = new StringBuilder(s);
        for (int k = 1 + pick(2); k > 0; k--) {
            int at = pick(b.length() + 1);
            switch (pick(3)) {
                case 0: b.insert(at, BITS[pick(BITS.length)]); break;
                case 1: if (at < b.length()) b.deleteCharAt(at); break;
                default: if (at < b.length()) b.replace(at, at + 1, BITS[pick(BITS.length)]);
            }
        }
        return b.toString();
    }

    private static String blanks(String s) {
        StringBuilder b = new StringBuilder();
        for (char c : s.toCharArray()) {
            if (c == ' ') { b.append(pick(5) == 0 ? "\n" : " "); continue; }
            b.append(c);
            if (c == ';' && pick(4) == 0) b.append(pick(2) == 0 ? " " : "\n");
        }
        return b.toString();
    }

    private static void same(String call, long got, long want) {
        Check.due("run " + run + ", " + wallText + ": " + call, got, want);
    }

    private static void tape(String s) {
        byte[] bytes = s.getBytes(StandardCharsets.ISO_8859_1);
        for (int at = 0; at < bytes.length; at += 20) {
            byte[] t = new byte[20];
            System.arraycopy(bytes, at, t, 0, Math.min(20, bytes.length - at));
            ByteBuffer b = ByteBuffer.wrap(t);
            int p = b.getInt(), q = b.getInt(), r = b.getInt(), u = b.getInt(), v = b.getInt();
            same("feed", x.feed(p, q, r, u, v), m.feed(p, q, r, u, v));
        }
        int n = pick(60) == 0 ? near(-1, 601) : bytes.length;
        same("end(" + n + ")", x.end(n), m.end(n));
    }

    private static void tellText(boolean small) {
        int sort = pick(3);
        String s = sort == 0 ? wallOf(small) : sort == 1 ? dayOf() : logOf();
        if (pick(3) == 0) s = spoil(s);
        if (pick(3) == 0) s = blanks(s);
        if (pick(25) == 0) sort = near(0, 2);
        if (sort == 0) wallText = s;
        tape(s);
        int at = pick(4) == 0 ? near(-1, 1) : m.count(sort) < 2 ? -1 : pick(2);
        same("text(" + sort + ", " + at + ") of '" + s + "'", x.text(sort, at), m.text(sort, at));
        for (int k = -1; k < 3; k++) same("fault(" + k + ") of '" + s + "'", x.fault(k), m.fault(k));
    }

    private static int what(int w) {
        int[] bases = {0, 1, 2, 3, 4, 5, 10, 20, 30, 40, 100, 200};
        int base = bases[pick(bases.length)];
        return pick(30) == 0 ? near(-1, 250) : base < 10 ? base : base < 100 ? base + feeler(w) : base + cell(w);
    }

    private static void askCheap() {
        int w = wall(), d = day(), l = log(), k, n, q;
        switch (pick(13)) {
            case 0: k = what(w); same("wall " + w + " " + k, x.wall(w, k), m.wall(w, k)); break;
            case 1: k = near(-1, 40); q = near(0, 2); same("deed " + k + " " + q, x.deed(d, k, q), m.deed(d, k, q)); break;
            case 2: k = near(-1, 8); q = near(0, 2); same("fact " + k + " " + q, x.fact(l, k, q), m.fact(l, k, q)); break;
            case 3: same("stop " + w + " " + d, x.stop(w, d), m.stop(w, d)); break;
            case 4: case 5:
                n = near(0, Math.max(0, m.stop(w, d))); k = what(w);
                same("state " + w + " " + d + " " + n + " " + k, x.state(w, d, n, k), m.state(w, d, n, k)); break;
            case 6: k = near(0, 5); same("after " + w + " " + d + " " + k, x.after(w, d, k), m.after(w, d, k)); break;
            case 7: k = R.nextInt(); n = near(0, 60); q = what(w); same("drawn " + w + " " + k + " " + n + " " + q, x.drawn(w, k, n, q), m.drawn(w, k, n, q)); break;
            case 8: n = near(0, 20); same("ways " + w + " " + n, x.ways(w, n), m.ways(w, n)); break;
            case 9: k = tale(w); q = tale(w); n = near(0, 4); same("rhyme " + k + " " + q + " " + n, x.rhyme(w, k, q, n), m.rhyme(w, k, q, n)); break;
            case 10: k = cell(w); q = cell(w); boolean s = R.nextBoolean(); same("loss " + k + " " + q + " " + s, x.loss(w, k, q, s), m.loss(w, k, q, s)); break;
            case 11: k = near(0, 8); same("shade " + w + " " + k, x.shade(w, k), m.shade(w, k)); break;
            default: k = near(0, 2); same("count " + k, x.count(k), m.count(k));
        }
    }

    private static void askDear() {
        int w = wall(), l = log(), f = feeler(w), g = feeler(w), n = near(1, 5 + pick(4)), k;
        boolean b = R.nextBoolean();
        switch (pick(17)) {
            case 0: k = near(0, (1 << Math.max(0, Math.min(n, 8))) - 1); int q = pick(3) == 0 ? near(0, 40) : pick(2) == 0 ? 30 + f : pick(20);
                same("tune " + w + " " + n + " " + k + " " + q, x.tune(w, n, k, q), m.tune(w, n, k, q)); break;
            case 1: same("reach " + w + " " + f + " " + b, x.reach(w, f, b), m.reach(w, f, b)); break;
            case 2: k = tale(w); same("play " + w + " " + f + " " + k + " " + b, x.play(w, f, k, b), m.play(w, f, k, b)); break;
            case 3: same("most " + w + " " + n + " " + b, x.most(w, n, b), m.most(w, n, b)); break;
            case 4: k = near(0, 4); same("duet " + w + " " + f + " " + g + " " + k + " " + b, x.duet(w, f, g, k, b), m.duet(w, f, g, k, b)); break;
            case 5: k = near(0, 10); int z = near(0, 12); if (z > 8 && pick(4) != 0) z -= 6; same("arm " + w + " " + f + " " + k + " " + z + " " + b, x.arm(w, f, k, z, b), m.arm(w, f, k, z, b)); break;
            case 6: same("code " + w, x.code(w), m.code(w)); break;
            case 7: case 8: case 9: k = pick(4) == 0 ? near(0, 3) : pick(3) != 0 ? pick(4) : near(10, 40);
                same("fits " + w + " " + l + " " + n + " " + k, x.fits(w, l, n, k), m.fits(w, l, n, k)); break;
            case 10: k = near(0, (1 << Math.max(0, Math.min(n, 8))) - 1); int c = cell(w);
                same("brick " + w + " " + l + " " + c + " " + n + " " + k, x.brick(w, l, c, n, k), m.brick(w, l, c, n, k)); break;
            case 11: same("apart " + w + " " + f + " " + g + " " + n, x.apart(w, f, g, n), m.apart(w, f, g, n)); break;
            case 12: same("keys " + w + " " + f + " " + b, x.keys(w, f, b), m.keys(w, f, b)); break;
            case 13: k = near(0, 8); int cells = m.wall(w, 0) * m.wall(w, 1);
                if (k > 2 && k <= 8 && cells > 8) k = pick(3);
                if (k == 2 && cells > 16) k = 1;
                same("dried " + w + " " + f + " " + k, x.dried(w, f, k), m.dried(w, f, k)); break;
            case 14: same("loud " + w + " " + n + " " + b, x.loud(w, n, b), m.loud(w, n, b)); break;
            case 15: k = near(0, 9); int h = near(0, 2); same("hold " + w + " " + f + " " + k + " " + h, x.hold(w, f, k, h), m.hold(w, f, k, h)); break;
            default: k = near(0, n - 1);
                same("odds " + w + " " + l + " " + n + " " + k + " " + b, x.odds(w, l, n, k, b), m.odds(w, l, n, k, b));
                same("few " + w + " " + l + " " + n + " " + b, x.few(w, l, n, b), m.few(w, l, n, b));
        }
    }

    /** Few long TALES, so that codes that are read two ways late, or never, come up often. */
    private static void codes(int sets) {
        for (run = 0; run < sets; run++) {
            x = new DeafWall();
            m = new Model();
            StringBuilder s = new StringBuilder();
            for (int k = 2 + pick(5); k > 0; k--) {
                s.append("tale");
                for (int i = 2 + pick(5); i > 0; i--) s.append(" " + pick(2));
                s.append(";");
            }
            wallText = s.toString();
            tape(wallText);
            same("text", x.text(0, -1), m.text(0, -1));
            same("code", x.code(0), m.code(0));
            seenCodes.add(x.code(0));
        }
    }

    private static final java.util.TreeSet<Integer> seenCodes = new java.util.TreeSet<>();

    public static void main(String[] args) {
        int runs = args.length > 0 ? Integer.parseInt(args[0]) : 400;
        for (run = 0; run < runs; run++) {
            x = new DeafWall();
            m = new Model();
            boolean small = pick(2) == 0;
            for (int k = 0; k < 6; k++) tellText(small);
            for (int k = 0; k < 60; k++) {
                int p = pick(60);
                if (p < 6) tellText(small);
                else if (p == 6) { int i = near(0, 2); same("image " + i, x.image(i) ? 1 : 0, m.image(i) ? 1 : 0); }
                else if (p == 7) { int i = near(0, 2); same("again " + i, x.again(i) ? 1 : 0, m.again(i) ? 1 : 0); }
                else if (p < 45) askCheap();
                else askDear();
            }
        }
        codes(3 * runs);
        Check.due("codes of many lengths, seen " + seenCodes, seenCodes.size() >= 12, true);
        Check.finish("ModelTest");
    }
}
