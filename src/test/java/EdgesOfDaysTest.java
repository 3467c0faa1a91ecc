/** Boundary cases of term 2, of DRAWN, and of promises 8, 9, 21, 30, sentence by sentence. */
public final class EdgesOfDaysTest extends Edges {
    // ---- term 2: one beat ----

    private static void force() {
        edge("CELLS are BESIDE that are one north, east, south or west (no way around the edges)", () -> {
            day("wall 8 2;source 7;", "play 9;play 0;");
            states(new int[][] {{2, 106, 7}, {2, 115, 7}, {2, 108, 0}, {2, 100, 0}, {2, 114, 0}});
            day("wall 8 2;source 8;", "play 9;play 0;");
            states(new int[][] {{2, 100, 7}, {2, 109, 7}, {2, 107, 0}, {2, 115, 0}});
            day("wall 1 4;", "play 9;play 0;");
            states(new int[][] {{2, 101, 7}, {2, 103, 0}});
            day("wall 3 3;source 4;", "play 9;play 0;");
            states(new int[][] {{2, 101, 7}, {2, 103, 7}, {2, 105, 7}, {2, 107, 7}, {2, 100, 0}, {2, 102, 0}, {2, 106, 0}, {2, 108, 0}});
        });
        edge("(0 ahead of beat 0)", () -> {
            day(LINE, "play 0;play 9;");
            states(new int[][] {{0, 100, 0}, {1, 100, 0}, {1, 101, 0}, {2, 100, 9}, {2, 101, 0}, {2, 102, 0}});
        });
        edge("less its DEAD, 0 at least", () -> {
            day("wall 3 1;dead 1 9;dead 2 1;", "play 9;play 0;play 0;");
            states(new int[][] {{2, 101, 0}, {3, 100, 0}, {3, 102, 0}});
            day("wall 3 1;dead 1 8;dead 2 1;", "play 9;play 0;play 0;");
            states(new int[][] {{2, 101, 1}, {3, 100, 0}, {3, 102, 0}});
            day("wall 2 1;dead 1 9;", "play 1;play 0;");
            states(new int[][] {{2, 101, 0}});
        });
        edge("of the SOURCE that, or the push of that beat, if it is greater", () -> {
            for (int push = 0; push < 10; push++) {
                day(LINE, "play 9;play 0;play " + push + ";");
                states(new int[][] {{3, 100, Math.max(5, push)}, {3, 102, 5}});
            }
            day("wall 2 1;dead 0 9;dead 1 1;", "play 9;play 0;play 0;");
            states(new int[][] {{2, 101, 8}, {3, 100, 0}});
        });
        edge("A CELL alone has none BESIDE it", () -> {
            day(ONE, "play 9;play 0;");
            states(new int[][] {{1, 100, 9}, {2, 100, 0}});
        });
        edge("A FEELER FEELS at a beat, if FORCE of its CELL then is its TENDER or more", () -> {
            for (int tender = 1; tender < 10; tender++) {
                day("wall 2 1;feeler 0 " + tender + ";feeler 1 " + tender + ";", "play 9;play 0;");
                states(new int[][] {{1, 20, 1}, {1, 21, 0}, {2, 21, tender <= 7 ? 1 : 0}, {2, 20, 1}});
            }
            day("wall 1 1;feeler 0 9;", "play 8;play 9;");
            states(new int[][] {{1, 20, 0}, {2, 20, 1}});
        });
        edge("TOLD a TALE, if its MARKS of the last beats, as many as the TALE has, are those", () -> {
            day("wall 1 1;feeler 0 1;tale 1 0;tale 1;tale 0 0 0 0 0 1;", "play 1;play 0;play 0;play 0;play 0;play 0;play 1;");
            states(new int[][] {{1, 30, 2}, {2, 30, 3}, {6, 30, 3}, {7, 30, 7}});
            day("wall 1 1;feeler 0 1;tale 0 1 1;", "play 1;play 1;play 0;play 1;play 0;play 1;play 1;");
            states(new int[][] {{6, 30, 0}, {7, 30, 1}});
        });
        edge("(while fewer beats have gone by, it is not TOLD it)", () -> {
            day("wall 1 1;feeler 0 1;tale 0 0;tale 0;tale 0 0 0 0 0 0;", "play 0;".repeat(6));
            states(new int[][] {{0, 30, 0}, {1, 30, 2}, {2, 30, 3}, {5, 30, 3}, {6, 30, 7}});
            day("wall 1 1;feeler 0 1;tale 0 1;tale 0 0 0 0 0 1;", "play 9;");
            states(new int[][] {{1, 30, 0}});
        });
    }

    // ---- term 2: deeds ----

    private static void stops(String wall, String day, int stop) {
        day(wall, day);
        due("stop of " + day, x.stop(0, 0), stop);
    }

    private static void deeds() {
        edge("wet: a CELL that is there, below 9", () -> {
            stops("dead 0 8;", "wet 0;wet 0;", 1);
            stops("dead 0 9;", "wet 0;", 0);
            stops("dead 0 1;", "wet 0;".repeat(9), 8);
            stops("", "wet 5;wet 6;", 1);
            stops("wall 8 4;", "wet 31;", 1);
            stops(ONE, "wet 1;", 0);
        });
        edge("dry: a CELL that is there, above 1", () -> {
            stops("dead 0 2;", "dry 0;dry 0;", 1);
            stops("dead 0 1;", "dry 0;", 0);
            stops("dead 0 9;", "dry 0;".repeat(9), 8);
            stops("", "dry 5;dry 6;", 1);
            stops("wall 8 4;", "dry 31;", 1);
            stops(ONE, "dry 1;", 0);
        });
        edge("DEAD of a CELL is 1 more, 1 less", () -> {
            day("dead 3 8;dead 4 2;", "wet 3;dry 4;dry 3;wet 4;");
            states(new int[][] {{1, 203, 9}, {2, 204, 1}, {3, 203, 8}, {4, 204, 2}, {4, 202, 2}, {4, 205, 2}});
        });
        edge("hush, touch: a FEELER that is there", () -> {
            stops("", "hush 0;", 0);
            stops("", "touch 0;", 0);
            stops("feeler 0 1;", "hush 0;hush 0;touch 0;touch 0;hush 1;", 4);
            stops("feeler 0 1;", "touch 1;", 0);
            stops("feeler 0 1;".repeat(6), "hush 5;touch 5;", 2);
        });
        edge("FEELS nothing from then on (its MARKS are 0), FEELS again", () -> {
            day("wall 1 1;feeler 0 1;feeler 0 1;tale 1 0;", "play 9;hush 0;play 9;play 9;touch 0;play 9;");
            states(new int[][] {{1, 20, 1}, {2, 20, 1}, {2, 40, 1}, {3, 20, 1}, {3, 30, 1}, {4, 40, 4}, {5, 40, 4}, {6, 40, 9}, {6, 20, 2},
                {6, 21, 4}, {6, 31, 0}});
            day("wall 1 1;" + "feeler 0 1;".repeat(6), "hush 1;hush 5;play 9;touch 5;play 9;");
            states(new int[][] {{3, 20, 1}, {3, 21, 0}, {3, 22, 1}, {3, 24, 1}, {3, 25, 0}, {5, 21, 0}, {5, 25, 1}, {5, 20, 2}});
        });
        edge("move: a FEELER that is there has a CELL that is there", () -> {
            stops("feeler 0 1;", "move 0 5;move 0 5;move 0 6;", 2);
            stops("feeler 0 1;", "move 1 0;", 0);
            stops("", "move 0 0;", 0);
            stops("wall 8 4;" + "feeler 0 1;".repeat(6), "move 5 31;", 1);
            day("wall 3 1;feeler 0 1;", "play 9;move 0 2;play 9;move 0 0;play 9;");
            states(new int[][] {{2, 10, 2}, {2, 20, 1}, {3, 20, 1}, {4, 10, 0}, {5, 20, 2}});
        });
        edge("STOP: the first DEED that can't be, else how many there are", () -> {
            stops("", "", 0);
            stops("", "play 0;", 1);
            stops("", "wet 6;play 0;", 0);
            stops("", "play 0;".repeat(39) + "wet 6;", 39);
            stops("", "play 0;".repeat(40), 40);
            stops("", "play 0;wet 6;play 0;dry 6;", 1);
        });
        edge("Promise 8: NONE: there is none such (of either)", () -> {
            day("", "play 1;");
            for (int odd : new int[] {1, 2, -1, -2, MIN, MAX}) {
                due("stop of wall " + odd, x.stop(odd, 0), -1);
                due("stop of day " + odd, x.stop(0, odd), -1);
                due("stop of both " + odd, x.stop(odd, odd), -1);
            }
            due("there are both", x.stop(0, 0), 1);
            wall("");
            due("no day", x.stop(0, 0), -1);
            x = new DeafWall();
            x.text(1, -1);
            due("no wall", x.stop(0, 0), -1);
        });
    }

    // ---- promise 9 ----

    private static void state() {
        edge("A STATE is behind the first n DEEDS, n up to STOP", () -> {
            day("wall 1 1;", "play 1;play 2;wet 1;play 3;");
            states(new int[][] {{0, 0, 0}, {1, 0, 1}, {2, 0, 2}, {2, 100, 2}, {3, 0, -2}, {4, 0, -2}, {5, 0, -2}, {-1, 0, -2}, {MIN, 0, -2}, {MAX, 0, -2}});
            day("", "play 1;".repeat(40));
            states(new int[][] {{40, 0, 40}, {41, 0, -2}, {39, 0, 39}});
            day("", "");
            states(new int[][] {{0, 0, 0}, {1, 0, -2}});
        });
        edge("A STATE, whatever was asked ahead of it", () -> {
            day("wall 1 1;feeler 0 1;tale 1;", "play 9;wet 0;hush 0;play 8;");
            due("another DAY", Check.take(x, 1, ""), 1);
            for (int times = 0; times < 2; times++) {
                states(new int[][] {{4, 0, 2}, {4, 1, 1}, {4, 2, 1}, {4, 20, 1}, {4, 30, 1}, {4, 40, 2}, {4, 100, 8}, {4, 200, 3}});
                states(new int[][] {{0, 0, 0}, {0, 1, 0}, {0, 2, 0}, {0, 20, 0}, {0, 30, 0}, {0, 40, 0}, {0, 100, 0}, {0, 200, 2}});
                due("after", x.after(0, 0, 3), 17);
                due("of the other DAY", x.state(0, 1, 0, 30), 0);
                due("after the other DAY, FIRST", x.after(0, 1, 0), -1);
                due("after the other DAY, PUSHED", x.after(0, 1, 3), 0);
            }
        });
        edge("Promise 9: 0: beats gone by", () -> {
            day("feeler 0 1;", "hush 0;wet 0;move 0 1;play 0;touch 0;play 9;");
            states(new int[][] {{0, 0, 0}, {3, 0, 0}, {4, 0, 1}, {5, 0, 1}, {6, 0, 2}});
        });
        edge("Promise 9: 1: FEELERS that are hushed (bits)", () -> {
            day("feeler 0 1;".repeat(6), "hush 0;hush 5;hush 5;touch 0;touch 1;");
            states(new int[][] {{0, 1, 0}, {1, 1, 1}, {2, 1, 33}, {3, 1, 33}, {4, 1, 32}, {5, 1, 32}});
        });
        edge("Promise 9: 2: couples that were TOLD so far at any beat", () -> {
            day("wall 1 1;" + "feeler 0 9;".repeat(6) + "tale 0;".repeat(6), "play 9;play 0;play 0;");
            states(new int[][] {{0, 2, 0}, {1, 2, 0}, {2, 2, 36}, {3, 2, 36}});
            day("feeler 0 9;", "play 9;");
            states(new int[][] {{1, 2, 0}});
        });
        edge("Promise 9: 40 + f: its MARKS of the last 6 beats (bits, the last one lowest; 0 ahead of beat 0)", () -> {
            day("wall 1 1;feeler 0 1;", "play 9;play 9;play 0;play 0;play 0;play 0;play 0;play 9;");
            states(new int[][] {{0, 40, 0}, {1, 40, 1}, {2, 40, 3}, {3, 40, 6}, {6, 40, 48}, {7, 40, 32}, {8, 40, 1}});
            day("wall 1 1;feeler 0 1;", "play 1;".repeat(8));
            states(new int[][] {{5, 40, 31}, {6, 40, 63}, {7, 40, 63}, {8, 20, 8}});
        });
        edge("Promise 9: 100 + c: FORCE of a CELL at the last beat (0 ahead of any)", () -> {
            day("wall 2 1;", "wet 0;play 9;wet 1;");
            states(new int[][] {{0, 100, 0}, {1, 100, 0}, {2, 100, 9}, {3, 100, 9}, {3, 101, 0}});
        });
        edge("Promise 9: each what, of a full WALL", () -> {
            day("wall 8 4;source 31;dead 31 9;" + "feeler 0 1;".repeat(5) + "feeler 31 1;" + "tale 0;".repeat(5) + "tale 1;", "play 9;");
            states(new int[][] {{1, 15, 31}, {1, 25, 1}, {1, 35, 32}, {1, 45, 1}, {1, 131, 9}, {1, 231, 9}, {1, 230, 2}, {1, 130, 0}, {1, 34, 31}});
        });
        edge("Promise 9: -2 for another what", () -> {
            day("wall 8 4;" + "feeler 0 1;".repeat(6), "play 9;");
            for (int what = -20; what < 300; what++) {
                boolean may = what >= 0 && what <= 2 || what >= 10 && what < 50 && what % 10 < 6 || what >= 100 && what < 132 || what >= 200 && what < 232;
                if (!may) states(new int[][] {{1, what, -2}});
            }
            states(new int[][] {{1, MIN, -2}, {1, MAX, -2}, {1, MIN + 200, -2}, {0, 3, -2}});
        });
        edge("Promise 9: -2: a FEELER, a CELL that is not there", () -> {
            day("wall 2 1;feeler 0 1;", "play 9;");
            states(new int[][] {{1, 10, 0}, {1, 11, -2}, {1, 21, -2}, {1, 31, -2}, {1, 41, -2}, {1, 101, 0}, {1, 102, -2}, {1, 201, 2}, {1, 202, -2}});
            day("", "");
            states(new int[][] {{0, 10, -2}, {0, 20, -2}, {0, 30, -2}, {0, 40, -2}});
        });
        edge("Promise 9: -2: there is no such STATE (no such WALL, no such DAY)", () -> {
            day("", "play 9;");
            for (int odd : new int[] {1, 2, -1, MIN, MAX}) {
                due("state of wall " + odd, x.state(odd, 0, 0, 0), -2);
                due("state of day " + odd, x.state(0, odd, 0, 0), -2);
            }
        });
    }

    // ---- drawn ----

    /** DRAWN at a WALL of one CELL, drawn anew in whole numbers: beats, last push, DEAD, hushed; at first 0, 0, 2, 0. */
    private static int[] drawnAtOne(long seed, int n, int feelers) {
        long[] drawn = {seed & 0xffffffffL};
        int[] at = {0, 0, 2, 0};
        for (int k = 0; k < n; k++) {
            int kind = below(drawn, 10);
            if (kind < 5) {
                at[0]++;
                at[1] = below(drawn, 10);
            } else if (kind < 7) {
                below(drawn, 1);
                at[2] = Math.max(1, Math.min(9, at[2] + (kind == 5 ? 1 : -1)));
            } else if (feelers > 0) {
                int feeler = below(drawn, feelers);
                if (kind == 7) at[3] |= 1 << feeler;
                if (kind == 8) at[3] &= ~(1 << feeler);
                if (kind == 9) below(drawn, 1);
            }
        }
        return at;
    }

    private static int below(long[] drawn, int n) {
        drawn[0] = Math.floorMod(drawn[0] * 1103515245L + 12345L, 1L << 32);
        return (int) (drawn[0] / 65536 % n);
    }

    private static void drawnAs(String wall, int feelers, int seed, int n) {
        int[] want = drawnAtOne(seed, n, feelers);
        String call = "drawn " + seed + " " + n + " at " + wall + " ";
        due(call + 0, x.drawn(0, seed, n, 0), want[0]);
        due(call + 100, x.drawn(0, seed, n, 100), want[1]);
        due(call + 200, x.drawn(0, seed, n, 200), want[2]);
        due(call + 1, x.drawn(0, seed, n, 1), want[3]);
    }

    private static void drawn() {
        int[] seeds = {0, 1, -1, 2, 65535, 65536, -65536, 1103515245, MIN, MIN + 1, MAX, MAX - 1};
        edge("x becomes x * 1103515245 + 12345 (of 32 bits), shifted right by 16 without sign", () -> {
            wall("wall 1 1;" + "feeler 0 1;".repeat(6));
            for (int seed : seeds) for (int n = 0; n <= 60; n += 5) drawnAs("six FEELERS", 6, seed, n);
        });
        edge("(Without FEELERS 7 to 9 draw no more, nothing is done.)", () -> {
            wall(ONE);
            for (int seed : seeds) for (int n = 0; n <= 60; n += 5) drawnAs("no FEELERS", 0, seed, n);
        });
        edge("n times, 0 to 60", () -> {
            wall("wall 1 1;feeler 0 1;");
            drawnAs("one FEELER", 1, 7, 0);
            drawnAs("one FEELER", 1, 7, 60);
            for (int n : new int[] {-1, -2, 61, 62, MIN, MAX}) due("drawn " + n, x.drawn(0, 7, n, 0), -2);
        });
        edge("each, if it may", () -> {
            wall("wall 1 1;dead 0 9;");
            int seed = 0;
            while (drawnAtOne(seed, 1, 0)[2] != 3) seed++;
            due("wet that can't be", x.drawn(0, seed, 1, 200), 9);
            wall("wall 1 1;dead 0 8;");
            due("wet", x.drawn(0, seed, 1, 200), 9);
            while (drawnAtOne(seed, 1, 0)[2] != 1) seed++;
            due("dry", x.drawn(0, seed, 1, 200), 7);
            wall("wall 1 1;dead 0 1;");
            due("dry that can't be", x.drawn(0, seed, 1, 200), 1);
            due("the next one is drawn all the same", x.drawn(0, seed, 60, 0), drawnAtOne(seed, 60, 0)[0]);
        });
        edge("Promise 21: what as state(), -2 for another what", () -> {
            wall("wall 2 1;feeler 1 1;tale 0;");
            int[][] first = {{0, 0}, {1, 0}, {2, 0}, {10, 1}, {20, 0}, {30, 0}, {40, 0}, {100, 0}, {101, 0}, {200, 2}, {201, 2}, {3, -2}, {9, -2}, {11, -2},
                {21, -2}, {31, -2}, {41, -2}, {50, -2}, {99, -2}, {102, -2}, {199, -2}, {202, -2}, {-1, -2}, {MIN, -2}, {MAX, -2}};
            for (int[] row : first) due("drawn, what " + row[0], x.drawn(0, 5, 0, row[0]), row[1]);
        });
        edge("Promise 21: -2: there is none such", () -> {
            wall("");
            for (int odd : new int[] {1, 2, -1, MIN, MAX}) due("drawn at " + odd, x.drawn(odd, 1, 1, 0), -2);
            due("at a new object", new DeafWall().drawn(0, 1, 1, 0), -2);
        });
        edge("Promise 21: as told it stays", () -> {
            wall("wall 1 1;feeler 0 1;");
            for (int k = 0; k < 50; k++) x.drawn(0, k, 60, 0);
            walls(new int[][] {{100, 2}, {10, 0}});
        });
    }

    // ---- promise 30 ----

    private static void after(String wall, String day, int... want) {
        day(wall, day);
        for (int what = 0; what < want.length; what++) due("after '" + day + "' " + what, x.after(0, 0, what), want[what]);
    }

    private static void after() {
        edge("FIRST: the beat at which any FEELER FELT first (none)", () -> {
            after("wall 1 1;feeler 0 9;", "", -1);
            after("wall 1 1;feeler 0 9;", "play 8;play 8;", -1);
            after("wall 1 1;feeler 0 9;", "play 9;play 9;", 0);
            after("wall 1 1;feeler 0 9;feeler 0 8;", "play 1;play 8;play 9;", 1);
            after("wall 1 1;", "play 9;", -1);
        });
        edge("BUSIEST: the beat at which most FELT, of several the first (no beats: none)", () -> {
            after("wall 1 1;feeler 0 9;", "", -1, -1);
            after("wall 1 1;feeler 0 9;", "hush 0;wet 0;", -1, -1);
            after("wall 1 1;feeler 0 9;", "play 0;play 0;", -1, 0);
            after("wall 1 1;feeler 0 9;", "play 0;play 9;play 9;", 1, 1);
            after("wall 1 1;feeler 0 9;feeler 0 1;", "play 1;play 9;play 1;play 9;", 0, 1);
            after("wall 1 1;", "play 9;", -1, 0);
        });
        edge("KEENEST: the FEELER that FELT at most beats, of several the least (none: nobody FELT)", () -> {
            after("wall 1 1;", "play 9;", -1, 0, -1);
            after("wall 1 1;feeler 0 9;", "play 8;", -1, 0, -1);
            after("wall 1 1;feeler 0 9;feeler 0 1;feeler 0 1;", "play 8;", 0, 0, 1);
            after("wall 1 1;feeler 0 9;feeler 0 1;feeler 0 1;", "play 9;", 0, 0, 0);
            after("wall 1 1;feeler 0 9;feeler 0 1;", "play 9;play 8;", 0, 0, 1);
            after("wall 1 1;feeler 0 1;feeler 0 9;", "play 9;play 8;", 0, 0, 0);
        });
        edge("PUSHED: all pushes together", () -> {
            after("", "", -1, -1, -1, 0);
            after("", "play 9;".repeat(40), -1, 0, -1, 360);
            after("", "play 9;wet 6;play 9;", -1, 0, -1, 9);
        });
        edge("SILENT: how many beats there were at which nobody FELT", () -> {
            after("wall 1 1;feeler 0 9;", "", -1, -1, -1, 0, 0);
            after("wall 1 1;feeler 0 9;feeler 0 5;", "play 4;play 5;play 9;play 0;", 1, 2, 1, 18, 2);
            after("", "play 9;".repeat(40), -1, 0, -1, 360, 40);
            after("wall 1 1;feeler 0 9;", "play 9;hush 0;play 9;", 0, 0, 0, 18, 1);
        });
        edge("STROLLS: how many DEEDS move there were by which a FEELER came to another CELL", () -> {
            after("feeler 0 1;", "", -1, -1, -1, 0, 0, 0);
            after("feeler 0 1;", "move 0 0;", -1, -1, -1, 0, 0, 0);
            after("feeler 0 1;feeler 1 1;", "move 0 1;move 0 1;move 1 1;move 0 0;move 1 0;move 0 6;move 0 2;", -1, -1, -1, 0, 0, 3);
        });
        edge("Of a DAY at a WALL, behind all DEEDS up to STOP", () -> {
            after("wall 1 1;feeler 0 9;", "play 0;wet 1;play 9;move 0 0;", -1, 0, -1, 0, 1, 0);
            after("wall 1 1;feeler 0 9;", "wet 1;play 9;", -1, -1, -1, 0, 0, 0);
        });
        edge("Promise 30: -2: there is none such (of either), or for another what", () -> {
            day("", "play 9;");
            for (int odd : new int[] {1, 2, -1, MIN, MAX}) {
                due("after at wall " + odd, x.after(odd, 0, 3), -2);
                due("after of day " + odd, x.after(0, odd, 3), -2);
            }
            for (int what : new int[] {6, 7, -1, -2, MIN, MAX}) due("after, what " + what, x.after(0, 0, what), -2);
        });
    }

    public static void main(String[] args) {
        force();
        deeds();
        state();
        drawn();
        after();
        Check.finish("EdgesOfDaysTest");
    }
}
