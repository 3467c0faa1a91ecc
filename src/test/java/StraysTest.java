import java.util.ArrayList;
import java.util.List;
import java.util.function.IntPredicate;

/**
 * Every argument of every question: where it strays from what may be, the answer is the refusal that the document names;
 * at the edges of what may be, the answers are those of the model, in any order. In four objects: new, all texts empty,
 * small, full.
 */
public final class StraysTest {
    private interface Ask<T> { long of(T object, int[] arguments); }

    /** One object as it was told, with how many there are of each thing at WALL 0, DAY 0, LOG 0. */
    private static final class Scene {
        final String name;
        final DeafWall wall = new DeafWall();
        final Model model = new Model();
        final List<Asked> asked = new ArrayList<>();
        int walls, days, logs, cells, feelers, tales, deeds, facts, stop;

        Scene(String name, String... texts) {
            this.name = name;
            for (int k = 0; k < texts.length; k++) {
                int sort = k / 2;
                Check.due("text of " + texts[k], Check.take(wall, sort, texts[k]), k % 2);
                byte[] bytes = texts[k].getBytes(java.nio.charset.StandardCharsets.ISO_8859_1);
                model.tape = bytes;
                Check.due("the model's text of " + texts[k], model.text(sort, -1), k % 2);
            }
            walls = days = logs = texts.length == 0 ? 0 : 2;
            if (walls == 0) return;
            cells = model.wall(0, 0) * model.wall(0, 1);
            feelers = model.wall(0, 3);
            tales = model.wall(0, 4);
            deeds = model.deed(0, -1, 0);
            facts = model.fact(0, -1, 0);
            stop = model.stop(0, 0);
        }
    }

    /** What one argument may be: a test, and values at the edges of it. */
    private static final class Domain {
        final IntPredicate may;
        final int[] edges;

        Domain(IntPredicate may, int... edges) {
            this.may = may;
            this.edges = edges;
        }

        static Domain range(int least, int most) { return new Domain(v -> v >= least && v <= most, least, most); }
    }

    private static final class Question {
        final String name;
        final long refusal;
        final Ask<DeafWall> asked;
        final Ask<Model> due;
        final Domain[] domains;

        Question(String name, long refusal, Ask<DeafWall> asked, Ask<Model> due, Domain... domains) {
            this.name = name;
            this.refusal = refusal;
            this.asked = asked;
            this.due = due;
            this.domains = domains;
        }
    }

    private static final int[] STRAYS = {Integer.MIN_VALUE, Integer.MIN_VALUE + 1, Integer.MIN_VALUE + 10, Integer.MIN_VALUE + 100,
        -65536, -257, -256, -200, -100, -99, -41, -33, -32, -31, -20, -10, -9, -8, -7, -6, -5, -4, -3, -2, -1, 0, 1, 2, 3, 4, 5, 6, 7, 8, 9, 10, 11, 12,
        13, 15, 16, 17, 19, 20, 21, 25, 26, 29, 30, 31, 32, 33, 35, 36, 39, 40, 41, 45, 46, 49, 50, 60, 61, 64, 99, 100, 105, 106, 131, 132, 199, 200, 231,
        232, 255, 256, 257, 300, 512, 65535, 65536, 1 << 30, Integer.MAX_VALUE - 99, Integer.MAX_VALUE - 1, Integer.MAX_VALUE};

    private static Domain whatOfWall(Scene s) {
        return new Domain(v -> v >= 0 && v <= 4 || v >= 10 && v < 10 + s.feelers || v >= 20 && v < 20 + s.feelers
            || v >= 30 && v < 30 + s.tales || v >= 40 && v < 40 + s.tales || v >= 100 && v < 100 + s.cells, 0, 4, 100, 99 + s.cells);
    }

    private static Domain whatOfState(Scene s) {
        return new Domain(v -> v >= 0 && v <= 2 || v >= 10 && v < 50 && v % 10 < s.feelers || v >= 100 && v < 100 + s.cells
            || v >= 200 && v < 200 + s.cells, 0, 1, 2, 100, 99 + s.cells, 200, 199 + s.cells);
    }

    private static Domain whatOfTune(Scene s) {
        return new Domain(v -> v >= 0 && v < 20 || v >= 30 && v < 30 + s.feelers || v == 40, 0, 19, 40);
    }

    private static List<Question> toldOf(Scene s) {
        Domain wall = Domain.range(0, s.walls - 1), day = Domain.range(0, s.days - 1), log = Domain.range(0, s.logs - 1);
        // k NONE asks how many there are: that is a question of its own
        Domain deed = new Domain(v -> v >= -1 && v < s.deeds, 0, s.deeds - 1), fact = new Domain(v -> v >= -1 && v < s.facts, 0, s.facts - 1);
        Domain three = Domain.range(0, 2);
        List<Question> all = new ArrayList<>();
        all.add(new Question("count", -2, (x, a) -> x.count(a[0]), (m, a) -> m.count(a[0]), three));
        all.add(new Question("wall", -1, (x, a) -> x.wall(a[0], a[1]), (m, a) -> m.wall(a[0], a[1]), wall, whatOfWall(s)));
        all.add(new Question("deed", -2, (x, a) -> x.deed(a[0], a[1], a[2]), (m, a) -> m.deed(a[0], a[1], a[2]), day, deed, three));
        all.add(new Question("deeds", -2, (x, a) -> x.deed(a[0], -1, a[1]), (m, a) -> m.deed(a[0], -1, a[1]), day, Domain.range(0, 0)));
        all.add(new Question("fact", -2, (x, a) -> x.fact(a[0], a[1], a[2]), (m, a) -> m.fact(a[0], a[1], a[2]), log, fact, three));
        all.add(new Question("facts", -2, (x, a) -> x.fact(a[0], -1, a[1]), (m, a) -> m.fact(a[0], -1, a[1]), log, Domain.range(0, 0)));
        all.add(new Question("stop", -1, (x, a) -> x.stop(a[0], a[1]), (m, a) -> m.stop(a[0], a[1]), wall, day));
        all.add(new Question("state", -2, (x, a) -> x.state(a[0], a[1], a[2], a[3]), (m, a) -> m.state(a[0], a[1], a[2], a[3]),
            wall, day, Domain.range(0, s.stop), whatOfState(s)));
        all.add(new Question("after", -2, (x, a) -> x.after(a[0], a[1], a[2]), (m, a) -> m.after(a[0], a[1], a[2]), wall, day, Domain.range(0, 5)));
        all.add(new Question("drawn", -2, (x, a) -> x.drawn(a[0], -7, a[1], a[2]), (m, a) -> m.drawn(a[0], -7, a[1], a[2]),
            wall, Domain.range(0, 60), whatOfState(s)));
        all.add(new Question("shade", -2, (x, a) -> x.shade(a[0], a[1]), (m, a) -> m.shade(a[0], a[1]), wall, Domain.range(0, 8)));
        Domain cell = Domain.range(0, s.cells - 1);
        for (boolean b : new boolean[] {false, true})
            all.add(new Question("loss", -1, (x, a) -> x.loss(a[0], a[1], a[2], b), (m, a) -> m.loss(a[0], a[1], a[2], b), wall, cell, cell));
        return all;
    }

    private static List<Question> tunesOf(Scene s) {
        Domain wall = Domain.range(0, s.walls - 1), feeler = Domain.range(0, s.feelers - 1), tale = Domain.range(0, s.tales - 1), n = Domain.range(1, 8);
        List<Question> all = new ArrayList<>();
        all.add(new Question("tune of 3", -2, (x, a) -> x.tune(a[0], 3, a[1], a[2]), (m, a) -> m.tune(a[0], 3, a[1], a[2]),
            wall, Domain.range(0, 7), whatOfTune(s)));
        all.add(new Question("tune", -2, (x, a) -> x.tune(a[0], a[1], 1, a[2]), (m, a) -> m.tune(a[0], a[1], 1, a[2]), wall, n, whatOfTune(s)));
        all.add(new Question("hold", -2, (x, a) -> x.hold(a[0], a[1], a[2], a[3]), (m, a) -> m.hold(a[0], a[1], a[2], a[3]),
            wall, feeler, Domain.range(0, 9), Domain.range(0, 2)));
        all.add(new Question("rhyme", -1, (x, a) -> x.rhyme(a[0], a[1], a[2], a[3]), (m, a) -> m.rhyme(a[0], a[1], a[2], a[3]),
            wall, tale, tale, Domain.range(0, 4)));
        all.add(new Question("code", -1, (x, a) -> x.code(a[0]), (m, a) -> m.code(a[0]), wall));
        all.add(new Question("ways", -1, (x, a) -> x.ways(a[0], a[1]), (m, a) -> m.ways(a[0], a[1]), wall, Domain.range(0, 20)));
        all.add(new Question("apart with 0", -1, (x, a) -> x.apart(a[0], 0, a[1], a[2]), (m, a) -> m.apart(a[0], 0, a[1], a[2]),
            wall, Domain.range(1, s.feelers - 1), n));
        all.add(new Question("apart from 0", -1, (x, a) -> x.apart(a[0], a[1], 0, a[2]), (m, a) -> m.apart(a[0], a[1], 0, a[2]),
            wall, Domain.range(1, s.feelers - 1), n));
        all.add(new Question("dried", -1, (x, a) -> x.dried(a[0], a[1], a[2]), (m, a) -> m.dried(a[0], a[1], a[2]),
            wall, feeler, s.cells > 8 ? new Domain(v -> v >= 0 && v <= 8, 0, 1) : Domain.range(0, 8)));
        for (boolean b : new boolean[] {false, true}) {
            all.add(new Question("reach", -1, (x, a) -> x.reach(a[0], a[1], b), (m, a) -> m.reach(a[0], a[1], b), wall, feeler));
            all.add(new Question("play", -1, (x, a) -> x.play(a[0], a[1], a[2], b), (m, a) -> m.play(a[0], a[1], a[2], b), wall, feeler, tale));
            all.add(new Question("most", -1, (x, a) -> x.most(a[0], a[1], b), (m, a) -> m.most(a[0], a[1], b), wall, n));
            all.add(new Question("loud", -1, (x, a) -> x.loud(a[0], a[1], b), (m, a) -> m.loud(a[0], a[1], b), wall, n));
            all.add(new Question("duet with 0", -99, (x, a) -> x.duet(a[0], 0, a[1], a[2], b), (m, a) -> m.duet(a[0], 0, a[1], a[2], b),
                wall, Domain.range(1, s.feelers - 1), Domain.range(0, 4)));
            all.add(new Question("duet from 0", -99, (x, a) -> x.duet(a[0], a[1], 0, a[2], b), (m, a) -> m.duet(a[0], a[1], 0, a[2], b),
                wall, Domain.range(1, s.feelers - 1), Domain.range(0, 4)));
            all.add(new Question("arm", -1, (x, a) -> x.arm(a[0], a[1], a[2], a[3], b), (m, a) -> m.arm(a[0], a[1], a[2], a[3], b),
                wall, feeler, Domain.range(0, 10), new Domain(v -> v >= 0 && v <= 12, 0, 6)));
            all.add(new Question("keys", -2, (x, a) -> x.keys(a[0], a[1], b), (m, a) -> m.keys(a[0], a[1], b), wall, feeler));
        }
        return all;
    }

    private static List<Question> logsOf(Scene s) {
        Domain wall = Domain.range(0, s.walls - 1), log = Domain.range(0, s.logs - 1), n = Domain.range(1, 8), cell = Domain.range(0, s.cells - 1);
        int fit = s.walls == 0 ? 0 : s.model.fits(0, 0, 3, 0);
        List<Question> all = new ArrayList<>();
        all.add(new Question("fits", -2, (x, a) -> x.fits(a[0], a[1], a[2], a[3]), (m, a) -> m.fits(a[0], a[1], a[2], a[3]),
            wall, log, n, new Domain(v -> v >= 0 && v <= 3 || v >= 10 && v < 10 + 256, 0, 1, 2, 3, 10)));
        all.add(new Question("fits of 3", -2, (x, a) -> x.fits(0, 0, 3, a[0]), (m, a) -> m.fits(0, 0, 3, a[0]),
            new Domain(v -> v >= 0 && v <= 3 || v >= 10 && v < 10 + fit, 0, 3)));
        all.add(new Question("brick of 3", -1, (x, a) -> x.brick(a[0], a[1], a[2], 3, a[3]), (m, a) -> m.brick(a[0], a[1], a[2], 3, a[3]),
            wall, log, cell, Domain.range(0, 7)));
        all.add(new Question("brick", -1, (x, a) -> x.brick(a[0], a[1], a[2], a[3], 1), (m, a) -> m.brick(a[0], a[1], a[2], a[3], 1), wall, log, cell, n));
        for (boolean b : new boolean[] {false, true}) {
            all.add(new Question("odds of 3", -1, (x, a) -> x.odds(a[0], a[1], 3, a[2], b), (m, a) -> m.odds(a[0], a[1], 3, a[2], b),
                wall, log, Domain.range(0, 2)));
            all.add(new Question("odds", -1, (x, a) -> x.odds(a[0], a[1], a[2], 0, b), (m, a) -> m.odds(a[0], a[1], a[2], 0, b), wall, log, n));
            all.add(new Question("few", -1, (x, a) -> x.few(a[0], a[1], a[2], b), (m, a) -> m.few(a[0], a[1], a[2], b), wall, log, n));
        }
        return all;
    }

    private static String call(Scene s, Question q, int[] a) { return s.name + ": " + q.name + java.util.Arrays.toString(a); }

    /** Of all arguments but one a value that may be, at WALL 0, DAY 0, LOG 0; that one strays. */
    private static void stray(Scene s, Question q) {
        for (int k = 0; k < q.domains.length; k++) {
            int[] a = new int[q.domains.length];
            for (int i = 0; i < a.length; i++) a[i] = q.domains[i].edges[0];
            for (int odd : STRAYS) {
                if (q.domains[k].may.test(odd)) continue;
                a[k] = odd;
                Check.due(call(s, q, a), q.asked.of(s.wall, a), q.refusal);
            }
        }
    }

    /** One call with the answer that the model gave. */
    private static final class Asked {
        final Question question;
        final int[] arguments;
        final long want;

        Asked(Question question, int[] arguments, long want) {
            this.question = question;
            this.arguments = arguments;
            this.want = want;
        }

        void again(Scene s) {
            Check.due(call(s, question, arguments), question.asked.of(s.wall, arguments), want);
        }
    }

    /** All values at the edges, each with each. Two WALLS, DAYS, LOGS may be unlike: the model says what is due. */
    private static void edges(Scene s, Question q, int k, int[] a) {
        if (k == a.length) {
            Asked asked = new Asked(q, a.clone(), q.due.of(s.model, a));
            asked.again(s);
            s.asked.add(asked);
            return;
        }
        for (int value : q.domains[k].edges) {
            a[k] = value;
            edges(s, q, k + 1, a);
        }
    }

    public static void main(String[] args) {
        String full = "wall 8 4;source 9;dead 31 9;dead 8 1;" + "feeler 9 3;feeler 10 1;feeler 0 2;feeler 1 9;feeler 31 1;feeler 8 4;"
            + "tale 1;tale 0 0 0 0 0 0;tale 0 1;tale 1 0 1;tale 0;tale 1 1 0;";
        String day = "play 9;play 3;hush 0;wet 9;play 0;move 1 31;dry 31;" + "play 9;".repeat(32) + "play 0;";
        Scene[] scenes = {new Scene("new"), new Scene("empty", "", "", "", "", "", ""),
            new Scene("small", "wall 1 1;feeler 0 5;tale 1;", "wall 2 1;feeler 1 1;", "play 9;", "wet 1;", "felt 0 0;", "not 1 0;"),
            new Scene("full", full, "feeler 0 1;tale 0;", day, "", "felt 0 0;" + "not 1 0;".repeat(6) + "not 3 1;", "")};
        for (Scene s : scenes) {
            List<Question> all = toldOf(s);
            all.addAll(tunesOf(s));
            all.addAll(logsOf(s));
            for (Question q : all) {
                Check.edge(s.name + ", " + q.name + ", strays", () -> stray(s, q));
                Check.edge(s.name + ", " + q.name + ", edges", () -> edges(s, q, 0, new int[q.domains.length]));
            }
            // no answer hangs on what was asked ahead of it
            java.util.Collections.shuffle(s.asked, new java.util.Random(11));
            Check.edge(s.name + ", all again, in another order", () -> s.asked.forEach(one -> one.again(s)));
        }
        Check.finish("StraysTest");
    }
}
