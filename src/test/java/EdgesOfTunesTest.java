/** Boundary cases of term 3, of APART, LOUD, HOLD, RHYME, and of promises 10 to 17, 24, 27 to 29, sentence by sentence. */
public final class EdgesOfTunesTest extends Edges {
    /** A push of 9 goes to and fro for 9 beats: 9, 8, 7 .. 1, at even beats at CELL 0, at odd ones at CELL 1. */
    private static final String TWO = "wall 2 1;dead 0 1;dead 1 1;";
    /** FEELER 0 FEELS nothing ever, FEELER 1 a push of 9 alone, at the beat of it. */
    private static final String DEAF = "wall 2 1;dead 1 9;feeler 1 9;feeler 0 9;";
    private static final int[] NO_WALLS = {1, 2, -1, -2, MIN, MAX};
    private static final int[] NO_LENGTHS = {0, -1, -2, 9, 10, 31, 32, 33, 40, -31, MIN, MIN + 1, MIN + 8, MAX};

    // ---- tunes ----

    private static void tunes(int[][] rows) {
        for (int[] row : rows) due("tune " + row[0] + " " + row[1] + " " + row[2], x.tune(0, row[0], row[1], row[2]), row[3]);
    }

    private static void tune() {
        edge("A TUNE of n, 1 .. 8", () -> {
            wall("wall 1 1;feeler 0 9;");
            tunes(new int[][] {{1, 0, 0, 0}, {8, 0, 0, 0}});
            for (int n : NO_LENGTHS) tunes(new int[][] {{n, 0, 0, -2}, {n, 1, 0, -2}});
        });
        edge("a number below 2 to the n", () -> {
            wall("wall 1 1;feeler 0 9;");
            for (int n = 1; n <= 8; n++)
                tunes(new int[][] {{n, 0, 0, 0}, {n, (1 << n) - 1, n - 1, 1}, {n, 1 << n, 0, -2}, {n, (1 << n) + 1, 0, -2}, {n, -1, 0, -2},
                    {n, MIN, 0, -2}, {n, MAX, 0, -2}});
        });
        edge("its bits, the lowest the first one, are pushes of 9 (1) and 0", () -> {
            wall("wall 1 1;feeler 0 9;");
            for (int beat = 0; beat < 20; beat++) {
                tunes(new int[][] {{8, 129, beat, beat == 0 || beat == 7 ? 1 : 0}, {8, 255, beat, beat < 8 ? 1 : 0}, {8, 0, beat, 0}, {2, 2, beat, beat == 1 ? 1 : 0}});
            }
        });
        edge("then nothing is pushed", () -> {
            wall("wall 1 1;feeler 0 1;");
            for (int beat = 1; beat < 20; beat++) tunes(new int[][] {{1, 1, beat, 0}});
            tunes(new int[][] {{1, 1, 40, 9}, {8, 255, 40, 72}, {8, 0, 40, 0}});
        });
        edge("By a TUNE all beats 0 .. 19 are gone through", () -> {
            // all eight pushes: CELL 0 has FORCE at beats 0 to 15, none at the last four
            wall(TWO + "feeler 0 1;tale 0 0 0 0;tale 0 0 0 0 0;tale 1 0 0 0 0;tale 1 0 0 0 0 0;tale 1 1 1 1 1 1;tale 0 1;");
            tunes(new int[][] {{8, 255, 15, 1}, {8, 255, 16, 0}, {8, 255, 19, 0}, {8, 255, 30, 1 + 4 + 16}, {8, 255, 40, 192}, {1, 1, 40, 45}});
        });
        edge("TOLD by a TUNE: nothing ahead of beat 0 counts", () -> {
            wall("wall 1 1;feeler 0 9;tale 0 1;");
            tunes(new int[][] {{1, 1, 30, 0}, {2, 2, 30, 1}, {2, 3, 30, 0}, {3, 6, 30, 1}});
        });
        edge("Promise 10: what 0 .. 19, 30 + f, 40; -2 for another what", () -> {
            wall("wall 1 1;" + "feeler 0 1;".repeat(6) + "tale 1;".repeat(6));
            tunes(new int[][] {{1, 1, 0, 63}, {1, 1, 19, 0}, {1, 1, 30, 63}, {1, 1, 35, 63}, {1, 1, 40, 9}});
            for (int what = -20; what < 300; what++) {
                boolean may = what >= 0 && what < 20 || what >= 30 && what < 36 || what == 40;
                if (!may) tunes(new int[][] {{1, 1, what, -2}});
            }
            tunes(new int[][] {{1, 1, MIN, -2}, {1, 1, MAX, -2}, {1, 1, MIN + 30, -2}});
        });
        edge("Promise 10: -2: there is none such (of either)", () -> {
            wall("wall 1 1;feeler 0 1;");
            tunes(new int[][] {{1, 1, 30, 0}, {1, 1, 31, -2}});
            for (int odd : NO_WALLS) due("tune at wall " + odd, x.tune(odd, 1, 1, 0), -2);
            wall(ONE);
            tunes(new int[][] {{1, 1, 0, 0}, {1, 1, 30, -2}, {1, 1, 40, 9}});
        });
    }

    // ---- reach, play, most ----

    private static void reaches(int feeler, int reach, int when) {
        due("reach " + feeler, x.reach(0, feeler, false), reach);
        due("reach " + feeler + ", when", x.reach(0, feeler, true), when);
    }

    private static void reach() {
        edge("REACH: the least push, 1 .. 9; when first", () -> {
            for (int tender = 1; tender < 10; tender++) {
                wall(TWO + "feeler 0 " + tender + ";feeler 1 " + tender + ";");
                reaches(0, tender, 0);
                reaches(1, tender < 9 ? tender + 1 : -1, tender < 9 ? 1 : -1);
            }
            wall("wall 8 2;" + deads(16, 1) + "feeler 15 1;feeler 15 2;feeler 7 2;");
            reaches(0, 9, 8);
            reaches(1, -1, -1);
            reaches(2, 9, 7);
        });
        edge("Of two WALLS, each by itself", () -> {
            wall("wall 3 1;feeler 0 3;");
            due("another WALL", Check.take(x, 0, "wall 3 1;source 2;feeler 0 3;"), 1);
            for (int times = 0; times < 2; times++) {
                reaches(0, 3, 0);
                due("tune", x.tune(0, 1, 1, 40), x.tune(1, 1, 1, 40));
                due("reach", x.reach(1, 0, false), 7);
                due("when", x.reach(1, 0, true), 2);
                due("loud", x.loud(1, 1, false), 1);
                due("loud", x.loud(0, 1, false), 2);
                due("no third", x.reach(2, 0, false), -1);
            }
        });
        edge("Promise 11: NONE: of none", () -> {
            wall("wall 2 1;dead 1 9;feeler 1 1;");
            reaches(0, -1, -1);
            wall("wall 2 1;dead 1 8;feeler 1 1;feeler 1 2;");
            reaches(0, 9, 1);
            reaches(1, -1, -1);
        });
        edge("Promise 11: NONE: there is none such (of either)", () -> {
            wall("wall 1 1;feeler 0 1;");
            for (int odd : NO_WALLS) {
                reaches(odd, -1, -1);
                due("reach at wall " + odd, x.reach(odd, 0, false), -1);
                due("when at wall " + odd, x.reach(odd, 0, true), -1);
            }
            wall("wall 1 1;" + "feeler 0 1;".repeat(6));
            reaches(5, 1, 0);
            reaches(6, -1, -1);
            wall("");
            reaches(0, -1, -1);
        });
    }

    static String deads(int cells, int dead) {
        StringBuilder text = new StringBuilder();
        for (int c = 0; c < cells; c++) text.append("dead " + c + " " + dead + ";");
        return text.toString();
    }

    private static void plays(int feeler, int tale, int n, int which) {
        due("play " + feeler + " " + tale, x.play(0, feeler, tale, false), n);
        due("play " + feeler + " " + tale + ", which", x.play(0, feeler, tale, true), which);
    }

    private static void play() {
        edge("PLAY: the shortest TUNE by which it is TOLD that: n; which, of several the least", () -> {
            wall("wall 1 1;feeler 0 9;tale 0;tale 1;tale 0 1;tale 1 0;tale 1 1 1 1 1 1;tale 0 0 0 0 0 0;");
            plays(0, 0, 1, 0);
            plays(0, 1, 1, 1);
            plays(0, 2, 2, 2);
            plays(0, 3, 1, 1);
            plays(0, 4, 6, 63);
            plays(0, 5, 1, 0);
        });
        edge("PLAY: a TUNE of 8 is the longest", () -> {
            // a push is FELT once more two beats later: four beats of rest want a push at beat 0 and one at beat 7
            wall("feeler 0 3;feeler 0 1;tale 1 0 0 0 0 1;");
            plays(0, 0, 8, 129);
            plays(1, 0, -1, -1);
        });
        edge("Promise 12: NONE: by none", () -> {
            wall(DEAF + "tale 1;tale 0;");
            plays(0, 0, -1, -1);
            plays(0, 1, 1, 0);
        });
        edge("Promise 12: NONE: there is none such (of any)", () -> {
            wall("wall 1 1;feeler 0 9;tale 0;");
            for (int odd : NO_WALLS) {
                plays(odd, 0, -1, -1);
                plays(0, odd, -1, -1);
                due("play at wall " + odd, x.play(odd, 0, 0, false), -1);
                due("which at wall " + odd, x.play(odd, 0, 0, true), -1);
            }
            wall("tale 0;");
            plays(0, 0, -1, -1);
            wall("feeler 0 1;");
            plays(0, 0, -1, -1);
            wall("wall 1 1;" + "feeler 0 9;".repeat(6) + "tale 0;".repeat(6));
            plays(5, 5, 1, 0);
            plays(6, 5, -1, -1);
            plays(5, 6, -1, -1);
        });
    }

    private static void mosts(int n, int many, int which) {
        due("most " + n, x.most(0, n, false), many);
        due("most " + n + ", which", x.most(0, n, true), which);
    }

    private static void most() {
        edge("MOST: how many couples; which, of several the least", () -> {
            wall("wall 1 1;" + "feeler 0 9;".repeat(6) + "tale 1;".repeat(6));
            for (int n = 1; n <= 8; n++) mosts(n, 36, 1);
            wall("wall 1 1;feeler 0 9;tale 1 1 1 1 1 1;");
            mosts(5, 0, 0);
            mosts(6, 1, 63);
            mosts(8, 1, 63);
            wall("wall 1 1;feeler 0 9;tale 0 1;");
            mosts(1, 0, 0);
            mosts(2, 1, 2);
        });
        edge("MOST without FEELERS, without TALES", () -> {
            wall("tale 0;");
            mosts(1, 0, 0);
            mosts(8, 0, 0);
            wall("feeler 0 1;");
            mosts(1, 0, 0);
            mosts(8, 0, 0);
        });
        edge("Promise 13: NONE: another n", () -> {
            wall("wall 1 1;feeler 0 1;tale 1;");
            for (int n : NO_LENGTHS) mosts(n, -1, -1);
        });
        edge("Promise 13: NONE: there is none such", () -> {
            wall("");
            for (int odd : NO_WALLS) {
                due("most at wall " + odd, x.most(odd, 1, false), -1);
                due("which at wall " + odd, x.most(odd, 1, true), -1);
            }
        });
    }

    // ---- duet ----

    private static void duets(int a, int b, int n, int much, int first) {
        due("duet " + a + " " + b + " " + n, x.duet(0, a, b, n, false), much);
        due("duet " + a + " " + b + " " + n + ", first", x.duet(0, a, b, n, true), first);
    }

    private static void duet() {
        edge("DUET of n, 0 .. 4: two by turns, one beat each, the first one first", () -> {
            // she pushes 0, he 9 for FEELER 1; she 9, he 0 against it
            wall(DEAF);
            int[][] want = {{0, 0}, {1, 0}, {1, -1}, {2, -1}, {2, -2}};
            for (int n = 0; n <= 4; n++) {
                duets(1, 0, n, want[n][0], n == 0 ? -1 : 9);
                duets(0, 1, n, want[n][1], n == 0 ? -1 : 0);
            }
        });
        edge("DUET: push 0, 3, 6 or 9", () -> {
            wall("wall 1 1;feeler 0 1;feeler 0 4;feeler 0 7;feeler 0 3;feeler 0 9;");
            duets(0, 1, 1, 1, 3);
            duets(1, 2, 1, 1, 6);
            duets(0, 4, 1, 1, 3);
            duets(2, 4, 1, 0, 0);
            duets(3, 0, 1, 0, 0);
        });
        edge("DUET: what he pushes first, the least that is best", () -> {
            wall("wall 1 1;feeler 0 9;feeler 0 9;feeler 0 1;");
            for (int n = 1; n <= 4; n++) duets(0, 1, n, 0, 0);
            duets(0, 2, 1, 0, 0);
            duets(2, 0, 1, 1, 3);
            wall(DEAF);
            for (int n = 4; n > 0; n--) duets(0, 1, n, -(n / 2), 0);
        });
        edge("Promise 14: (NONE: n is 0)", () -> {
            wall(DEAF);
            duets(0, 1, 0, 0, -1);
            duets(1, 0, 0, 0, -1);
        });
        edge("Promise 14: -99: another n", () -> {
            wall(DEAF);
            for (int n : new int[] {-1, -2, 5, 6, 8, 32, MIN, MAX}) duets(0, 1, n, -99, -99);
        });
        edge("Promise 14: -99: they are not two", () -> {
            wall(DEAF);
            for (int n = 0; n <= 4; n++) {
                duets(0, 0, n, -99, -99);
                duets(1, 1, n, -99, -99);
            }
        });
        edge("Promise 14: -99: there is none such (of any)", () -> {
            wall(DEAF);
            for (int odd : new int[] {2, 3, -1, MIN, MAX}) {
                duets(0, odd, 0, -99, -99);
                duets(odd, 0, 1, -99, -99);
                due("duet at wall " + odd, x.duet(odd, 0, 1, 1, false), -99);
                due("first at wall " + odd, x.duet(odd, 0, 1, 0, true), -99);
            }
            wall("wall 1 1;" + "feeler 0 9;".repeat(6));
            duets(5, 4, 1, 0, 0);
            duets(5, 6, 1, -99, -99);
            duets(6, 5, 1, -99, -99);
        });
    }

    // ---- arm, code, ways ----

    private static void arms(int feeler, int p, int n, long over, long under) {
        due("arm " + feeler + " " + p + " " + n, x.arm(0, feeler, p, n, false), over);
        due("arm " + feeler + " " + p + " " + n + ", under", x.arm(0, feeler, p, n, true), under);
    }

    private static void arm() {
        edge("ARM of p, 0 .. 10", () -> {
            wall("wall 1 1;feeler 0 9;");
            arms(0, 0, 1, 1, 1);
            arms(0, 10, 1, 0, 1);
            arms(0, 1, 1, 9, 10);
            arms(0, 9, 1, 1, 10);
            for (int p : new int[] {-1, -2, 11, 12, MIN, MAX}) arms(0, p, 1, -1, -1);
        });
        edge("ARM of n, 0 .. 12", () -> {
            wall("wall 1 1;feeler 0 9;");
            arms(0, 5, 0, 1, 1);
            arms(0, 10, 0, 1, 1);
            arms(0, 5, 12, 1, 4096);
            arms(0, 1, 12, 282429536481L, 1000000000000L);
            for (int n : new int[] {-1, -2, 13, 14, MIN, MAX}) arms(0, 5, n, -1, -1);
        });
        edge("ARM: each winter 1 less (0 at least)", () -> {
            wall("wall 1 1;feeler 0 1;");
            arms(0, 10, 8, 1, 1);
            arms(0, 10, 9, 0, 1);
            arms(0, 10, 10, 0, 1);
            arms(0, 10, 12, 0, 1);
            // of 12 winters 9 to 12 take all: 220 + 66 + 12 + 1 of 4096
            arms(0, 5, 12, 3797, 4096);
        });
        edge("ARM: a fraction in least terms", () -> {
            wall("wall 1 1;feeler 0 9;feeler 0 8;");
            arms(0, 5, 1, 1, 2);
            arms(0, 4, 1, 3, 5);
            arms(1, 5, 2, 3, 4);
            arms(1, 2, 2, 24, 25);
        });
        edge("ARM of a FEELER that FEELS no push at all", () -> {
            wall(DEAF);
            arms(0, 0, 0, 0, 1);
            arms(0, 5, 12, 0, 1);
        });
        edge("Promise 15: NONE: there is none such (of either)", () -> {
            wall("wall 1 1;feeler 0 9;");
            for (int odd : NO_WALLS) {
                arms(odd, 5, 1, -1, -1);
                due("arm at wall " + odd, x.arm(odd, 0, 5, 1, false), -1);
                due("under at wall " + odd, x.arm(odd, 0, 5, 1, true), -1);
            }
            wall("");
            arms(0, 5, 1, -1, -1);
        });
    }

    private static void codes(String tales, int want) {
        wall(tales);
        due("code of " + tales, x.code(0), want);
    }

    private static void codeAndWays() {
        edge("CODE: each in one way alone: 0", () -> {
            codes("", 0);
            codes("tale 0;", 0);
            codes("tale 0 0 0 0 0 0;", 0);
            codes("tale 0;tale 1;", 0);
            codes("tale 0;tale 0 1;tale 1 1;", 0);
            codes("tale 1 0;tale 0;tale 1 1;", 0);
        });
        edge("CODE: (TALES alike are two)", () -> {
            codes("tale 0;tale 0;", 1);
            codes("tale 1 0 1 0 1 0;tale 1 0 1 0 1 0;", 6);
            codes("tale 1 0 1;tale 0 0 0 0;tale 1 0 1;", 3);
        });
        edge("CODE: else how long the shortest row is that is so in two", () -> {
            codes("tale 0;tale 0 0;", 2);
            codes("tale 0 0;tale 0 0 0;", 5);
            codes("tale 0 0 0;tale 0;", 3);
            codes("tale 0 0 0 0 0;tale 0 0;", 7);
            codes("tale 0 0 0 0 0;tale 0 0 0 0 0 0;", 11);
            codes("tale 0 0 0 0 0 0;tale 0 0 0 0;", 10);
            codes("tale 0;tale 0 1;tale 1 0;tale 1 1 1 1 1 1;tale 1 1 1 1 1 1;", 3);
        });
        edge("Promise 16: NONE: there is none such", () -> {
            wall("tale 0;tale 0;");
            for (int odd : NO_WALLS) due("code of " + odd, x.code(odd), -1);
            due("code of a new object", new DeafWall().code(0), -1);
        });
        edge("WAYS of n, 0 .. 20", () -> {
            wall("tale 1;tale 1;");
            due("ways 0", x.ways(0, 0), 1);
            due("ways 1", x.ways(0, 1), 2);
            due("ways 20", x.ways(0, 20), 1 << 20);
            wall("tale 1;tale 0;tale 1;tale 1;tale 0;tale 1;");
            due("six by twenty", x.ways(0, 20), 3656158440062976L);
        });
        edge("WAYS: TALES have n MARKS together", () -> {
            wall("tale 1 0 1 0 1 0;");
            for (int n = 0; n <= 20; n++) due("ways " + n, x.ways(0, n), n % 6 == 0 ? 1 : 0);
            wall("");
            for (int n = 0; n <= 20; n++) due("ways of no TALES " + n, x.ways(0, n), n == 0 ? 1 : 0);
            wall("tale 1 0 1 0 1 0;tale 1 0 1 0 1;");
            int[] want = {1, 0, 0, 0, 0, 1, 1, 0, 0, 0, 1, 2, 1};
            for (int n = 0; n < want.length; n++) due("ways of five and six " + n, x.ways(0, n), want[n]);
        });
        edge("Promise 17: NONE: another n, or there is none such", () -> {
            wall("tale 1;");
            for (int n : new int[] {-1, -2, 21, 22, MIN, MAX}) due("ways " + n, x.ways(0, n), -1);
            for (int odd : NO_WALLS) due("ways at wall " + odd, x.ways(odd, 1), -1);
        });
    }

    // ---- apart, loud, hold ----

    private static void apart() {
        edge("APART of n, 1 .. 8", () -> {
            wall(DEAF);
            for (int n = 1; n <= 8; n++) {
                due("apart " + n, x.apart(0, 0, 1, n), (1 << n) - 1);
                due("apart, turned " + n, x.apart(0, 1, 0, n), (1 << n) - 1);
            }
        });
        edge("APART: just the same beats", () -> {
            wall(TWO + "feeler 0 9;feeler 0 8;feeler 0 7;feeler 1 9;feeler 1 9;");
            due("8 and 9 are FELT alike", x.apart(0, 0, 1, 8), 0);
            due("at another beat too", x.apart(0, 1, 2, 1), 1);
            due("never, both", x.apart(0, 3, 4, 8), 0);
            wall("wall 2 1;dead 1 1;source 1;feeler 0 2;feeler 1 3;");
            due("as many, but other beats", x.apart(0, 0, 1, 1), 1);
        });
        edge("Promise 24: NONE: another n", () -> {
            wall(DEAF);
            for (int n : NO_LENGTHS) due("apart " + n, x.apart(0, 0, 1, n), -1);
        });
        edge("Promise 24: NONE: they are not two", () -> {
            wall(DEAF);
            due("apart 0 0", x.apart(0, 0, 0, 1), -1);
            due("apart 1 1", x.apart(0, 1, 1, 8), -1);
        });
        edge("Promise 24: NONE: there is none such (of any)", () -> {
            wall(DEAF);
            for (int odd : new int[] {2, 3, -1, MIN, MAX}) {
                due("apart 0 " + odd, x.apart(0, 0, odd, 1), -1);
                due("apart " + odd + " 0", x.apart(0, odd, 0, 1), -1);
                due("apart at wall " + odd, x.apart(odd, 0, 1, 1), -1);
            }
        });
    }

    private static void louds(int n, int many, int which) {
        due("loud " + n, x.loud(0, n, false), many);
        due("loud " + n + ", which", x.loud(0, n, true), which);
    }

    private static void loud() {
        edge("LOUD of n, 1 .. 8: at how many (each by itself); which", () -> {
            wall("wall 1 1;" + "feeler 0 9;".repeat(6));
            for (int n = 1; n <= 8; n++) louds(n, 6 * n, (1 << n) - 1);
        });
        edge("LOUD: of several the least", () -> {
            // a push is FELT at its beat and two later: one at beat 2 adds nothing to those at 0, 1, 3, 4
            wall("wall 3 1;feeler 0 5;");
            louds(5, 7, 27);
            wall("feeler 5 9;");
            louds(8, 0, 0);
            wall("");
            louds(1, 0, 0);
        });
        edge("Promise 27: NONE: another n, or there is none such", () -> {
            wall("wall 1 1;feeler 0 9;");
            for (int n : NO_LENGTHS) louds(n, -1, -1);
            for (int odd : NO_WALLS) {
                due("loud at wall " + odd, x.loud(odd, 1, false), -1);
                due("which at wall " + odd, x.loud(odd, 1, true), -1);
            }
        });
    }

    private static void holds(int feeler, int push, int many, int first, int row) {
        due("hold " + feeler + " " + push, x.hold(0, feeler, push, 0), many);
        due("hold " + feeler + " " + push + ", first", x.hold(0, feeler, push, 1), first);
        due("hold " + feeler + " " + push + ", row", x.hold(0, feeler, push, 2), row);
    }

    private static void hold() {
        edge("HOLD of a push, 0 .. 9", () -> {
            wall("wall 1 1;feeler 0 1;feeler 0 9;");
            holds(0, 0, 0, -1, 0);
            holds(0, 1, 20, 0, 20);
            holds(1, 8, 0, -1, 0);
            holds(1, 9, 20, 0, 20);
        });
        edge("HOLD: that push is made at all beats 0 .. 19", () -> {
            wall("wall 8 2;" + deads(16, 1) + "feeler 15 1;feeler 7 1;feeler 15 2;");
            holds(0, 9, 12, 8, 12);
            holds(1, 9, 13, 7, 13);
            holds(1, 8, 13, 7, 13);
            holds(1, 7, 0, -1, 0);
            holds(2, 9, 0, -1, 0);
        });
        edge("Promise 28: -2: another push", () -> {
            wall("wall 1 1;feeler 0 1;");
            for (int push : new int[] {-1, -2, 10, 11, MIN, MAX}) holds(0, push, -2, -2, -2);
        });
        edge("Promise 28: -2: there is none such (of either)", () -> {
            wall("wall 1 1;feeler 0 1;");
            for (int odd : NO_WALLS) {
                holds(odd, 1, -2, -2, -2);
                due("hold at wall " + odd, x.hold(odd, 0, 1, 0), -2);
            }
            wall("");
            holds(0, 1, -2, -2, -2);
        });
        edge("Promise 28: -2 for another what", () -> {
            wall("wall 1 1;feeler 0 1;");
            for (int what : new int[] {-1, -2, 3, 4, MIN, MAX}) due("hold, what " + what, x.hold(0, 0, 1, what), -2);
        });
    }

    // ---- rhyme ----

    private static void rhymes(int a, int b, int... want) {
        for (int what = 0; what < want.length; what++) due("rhyme " + a + " " + b + " " + what, x.rhyme(0, a, b, what), want[what]);
    }

    private static void rhyme() {
        edge("RHYME: with how many MARKS both end alike; BEGIN: begin alike", () -> {
            wall("tale 0;tale 1;tale 1 0 0 0 0 1;tale 1 1 0 0 0 1;tale 0 0 0 0 0 0;tale 0 1;");
            rhymes(0, 1, 0, 0);
            rhymes(0, 0, 1, 1);
            rhymes(2, 2, 6, 6);
            rhymes(2, 3, 4, 1);
            rhymes(1, 2, 1, 1);
            rhymes(4, 0, 1, 1);
            rhymes(4, 5, 0, 1);
            rhymes(5, 2, 2, 0);
        });
        edge("WITHIN: all MARKS of the first are somewhere in the second, one behind the other (1, else 0)", () -> {
            wall("tale 0;tale 1;tale 1 0 0 0 0 1;tale 1 1;tale 0 0 0 0;tale 0 0 0 0 1;");
            for (int a = 0; a < 6; a++) due("within itself", x.rhyme(0, a, a, 2), 1);
            int[][] want = {{0, 2, 1}, {2, 0, 0}, {1, 2, 1}, {3, 2, 0}, {4, 2, 1}, {5, 2, 1}, {2, 5, 0}, {1, 3, 1}, {3, 1, 0}, {0, 3, 0}};
            for (int[] row : want) due("within " + row[0] + " " + row[1], x.rhyme(0, row[0], row[1], 2), row[2]);
        });
        edge("ECHO: the longest row of MARKS that is in both, one behind the other", () -> {
            wall("tale 0;tale 1;tale 1 0 0 0 0 1;tale 1 1;tale 0 1 1 0 0 1;tale 1 1 1 1 1 1;");
            int[][] want = {{0, 1, 0}, {0, 0, 1}, {2, 2, 6}, {2, 4, 3}, {4, 2, 3}, {3, 4, 2}, {5, 2, 1}, {5, 0, 0}, {5, 5, 6}, {3, 5, 2}};
            for (int[] row : want) due("echo " + row[0] + " " + row[1], x.rhyme(0, row[0], row[1], 3), row[2]);
        });
        edge("TURNED: whether the one is the other from behind (1, else 0)", () -> {
            wall("tale 0;tale 1;tale 1 0;tale 0 1;tale 1 1 0 1 0 0;tale 0 0 1 0 1 1;");
            int[][] want = {{0, 0, 1}, {0, 1, 0}, {2, 3, 1}, {3, 2, 1}, {2, 2, 0}, {4, 5, 1}, {5, 4, 1}, {4, 4, 0}, {0, 3, 0}, {3, 0, 0}, {1, 2, 0}};
            for (int[] row : want) due("turned " + row[0] + " " + row[1], x.rhyme(0, row[0], row[1], 4), row[2]);
        });
        edge("Promise 29: NONE: there is none such (of any)", () -> {
            wall("tale 0;");
            for (int odd : NO_WALLS) {
                rhymes(odd, 0, -1, -1, -1, -1, -1);
                rhymes(0, odd, -1, -1, -1, -1, -1);
                due("rhyme at wall " + odd, x.rhyme(odd, 0, 0, 0), -1);
            }
            wall("");
            rhymes(0, 0, -1, -1, -1, -1, -1);
            wall("tale 0;".repeat(6));
            rhymes(5, 0, 1, 1, 1, 1, 1);
            rhymes(6, 0, -1, -1, -1, -1, -1);
        });
        edge("Promise 29: NONE for another what", () -> {
            wall("tale 0;");
            for (int what : new int[] {-1, -2, 5, 6, MIN, MAX}) due("rhyme, what " + what, x.rhyme(0, 0, 0, what), -1);
        });
    }

    public static void main(String[] args) {
        tune();
        reach();
        play();
        most();
        duet();
        arm();
        codeAndWays();
        apart();
        loud();
        hold();
        rhyme();
        Check.finish("EdgesOfTunesTest");
    }
}
