/** Boundary cases of term 5, of a WALL as told, and of promises 22, 23, 25, 26, sentence by sentence. */
public final class EdgesOfWallsTest extends Edges {
    private static final int[] NO_SUCH = {1, 2, -1, -2, MIN, MAX};

    private static String deads(int cells, int dead) { return EdgesOfTunesTest.deads(cells, dead); }

    private static void losses(int a, int b, int loss, int steps) {
        due("loss " + a + " " + b, x.loss(0, a, b, false), loss);
        due("steps " + a + " " + b, x.loss(0, a, b, true), steps);
    }

    private static void loss() {
        edge("LOSS: (to itself 0)", () -> {
            wall("wall 8 4;");
            for (int c = 0; c < 32; c++) losses(c, c, 0, 0);
            wall("wall 1 1;dead 0 9;");
            losses(0, 0, 0, 0);
        });
        edge("LOSS: DEAD of each that is stepped into, together", () -> {
            wall("wall 3 1;dead 0 9;dead 1 3;dead 2 1;");
            losses(0, 1, 3, 1);
            losses(1, 0, 9, 1);
            losses(0, 2, 4, 2);
            losses(2, 0, 12, 2);
        });
        edge("LOSS: as little as can be; STEPS: the fewest", () -> {
            wall("dead 1 9;dead 2 1;dead 3 1;dead 4 1;dead 5 1;");
            losses(0, 2, 4, 2);
            wall("wall 8 4;" + deads(32, 9));
            losses(0, 31, 90, 10);
            losses(31, 0, 90, 10);
            losses(7, 24, 90, 10);
            wall("wall 8 4;" + deads(32, 1));
            losses(0, 31, 10, 10);
        });
        edge("LOSS: each to a CELL BESIDE (no way around the edges)", () -> {
            wall("wall 8 2;");
            losses(7, 8, 16, 8);
            losses(0, 7, 14, 7);
            losses(0, 15, 16, 8);
            wall("wall 1 4;");
            losses(0, 3, 6, 3);
            wall("wall 8 1;");
            losses(7, 0, 14, 7);
        });
        edge("Promise 22: NONE: there is none such (of any)", () -> {
            wall("wall 2 1;");
            for (int odd : new int[] {2, 3, 31, 32, -1, -2, MIN, MAX}) {
                losses(odd, 0, -1, -1);
                losses(0, odd, -1, -1);
                losses(odd, odd, -1, -1);
            }
            for (int odd : NO_SUCH) {
                due("loss at wall " + odd, x.loss(odd, 0, 0, false), -1);
                due("steps at wall " + odd, x.loss(odd, 0, 0, true), -1);
            }
            wall("wall 8 4;");
            losses(31, 32, -1, -1);
            losses(32, 31, -1, -1);
        });
    }

    private static void shades(int what, int want) { due("shade " + what, x.shade(0, what), want); }

    private static void shade() {
        edge("SHADOW: CELLS whose FORCE is 0 at all beats: how many; the first", () -> {
            wall("wall 2 1;dead 1 9;");
            shades(0, 1);
            shades(1, 1);
            wall("wall 2 1;dead 1 8;");
            shades(0, 0);
            shades(1, -1);
            wall("wall 8 1;source 7;");
            shades(0, 3);
            shades(1, 0);
            wall("wall 8 4;" + deads(32, 9));
            shades(0, 31);
            shades(1, 1);
            wall(ONE);
            shades(0, 0);
            shades(1, -1);
        });
        edge("FARTHEST: LOSS from the SOURCE is greatest, of several the least; that LOSS", () -> {
            wall("wall 3 1;source 1;");
            shades(2, 0);
            shades(3, 2);
            wall("wall 3 1;source 2;dead 1 1;");
            shades(2, 0);
            shades(3, 3);
            wall(ONE);
            shades(2, 0);
            shades(3, 0);
            wall("wall 8 4;" + deads(32, 9));
            shades(2, 31);
            shades(3, 90);
            wall("wall 2 2;source 3;");
            shades(2, 0);
            wall("wall 2 2;source 1;");
            shades(2, 2);
            wall("wall 2 1;");
            shades(2, 1);
            shades(3, 2);
        });
        edge("DEADEST: of several the least; all DEADS together", () -> {
            wall("wall 8 4;");
            shades(4, 0);
            shades(5, 64);
            wall("wall 8 4;dead 31 3;");
            shades(4, 31);
            shades(5, 65);
            wall("wall 8 4;" + deads(32, 9));
            shades(4, 0);
            shades(5, 288);
            wall("wall 8 4;dead 0 1;dead 30 4;dead 29 4;");
            shades(4, 29);
            wall("wall 1 1;dead 0 1;");
            shades(4, 0);
            shades(5, 1);
            wall("wall 2 1;dead 1 9;");
            shades(4, 1);
            shades(5, 11);
        });
        edge("TENDEREST: of several the least (none: none)", () -> {
            wall("");
            shades(6, -1);
            wall("feeler 0 9;");
            shades(6, 0);
            wall("feeler 0 9;feeler 0 1;feeler 0 1;");
            shades(6, 1);
            wall("feeler 0 1;feeler 0 9;");
            shades(6, 0);
            wall("feeler 0 9;".repeat(5) + "feeler 0 8;");
            shades(6, 5);
        });
        edge("SHARING: couples of FEELERS that have one CELL", () -> {
            wall("");
            shades(7, 0);
            wall("feeler 5 1;");
            shades(7, 0);
            wall("feeler 5 1;".repeat(6));
            shades(7, 15);
            wall("feeler 0 1;feeler 5 1;feeler 0 2;feeler 5 2;feeler 0 3;feeler 1 1;");
            shades(7, 4);
        });
        edge("SEAMS: couples of CELLS BESIDE that are not as DEAD (no way around the edges)", () -> {
            wall("wall 8 4;");
            shades(8, 0);
            wall(ONE);
            shades(8, 0);
            wall("dead 2 9;");
            shades(8, 2);
            wall("dead 3 9;");
            shades(8, 2);
            StringBuilder board = new StringBuilder("wall 8 4;");
            for (int c = 0; c < 32; c++) if ((c + c / 8) % 2 == 0) board.append("dead " + c + " 1;");
            wall(board.toString());
            shades(8, 7 * 4 + 8 * 3);
        });
        edge("Promise 23: -2: there is none such, or for another what", () -> {
            wall("");
            for (int odd : NO_SUCH) for (int what = 0; what < 9; what++) due("shade of wall " + odd, x.shade(odd, what), -2);
            for (int what : new int[] {9, 10, -1, -2, MIN, MAX}) shades(what, -2);
        });
    }

    private static void keys(int feeler, int many, int first) {
        due("keys " + feeler, x.keys(0, feeler, false), many);
        due("keys " + feeler + ", first", x.keys(0, feeler, true), first);
    }

    private static void keysAndDried() {
        edge("KEYS: CELLS that alone, being 9 DEAD, make that it has none: how many; the first", () -> {
            wall("wall 3 1;source 1;feeler 0 1;feeler 2 1;");
            keys(0, 1, 0);
            keys(1, 1, 2);
            wall("wall 3 1;feeler 2 1;");
            keys(0, 2, 1);
            wall("wall 2 2;feeler 3 1;");
            keys(0, 1, 3);
            wall("wall 8 2;" + deads(16, 1) + "feeler 7 2;");
            keys(0, 7, 1);
            walls(new int[][] {{101, 1}, {107, 1}});
        });
        edge("Promise 25: the first (NONE: none)", () -> {
            wall("wall 2 1;feeler 0 1;feeler 0 9;");
            keys(0, 0, -1);
            keys(1, 0, -1);
        });
        edge("Promise 25: -2: it has no REACH", () -> {
            wall("wall 2 1;dead 1 9;feeler 1 1;feeler 0 1;");
            keys(0, -2, -2);
            keys(1, 0, -1);
        });
        edge("Promise 25: -2: there is none such (of either)", () -> {
            wall("wall 2 1;feeler 1 1;");
            for (int odd : NO_SUCH) {
                keys(odd, -2, -2);
                due("keys at wall " + odd, x.keys(odd, 0, false), -2);
                due("first at wall " + odd, x.keys(odd, 0, true), -2);
            }
            wall("");
            keys(0, -2, -2);
        });
        edge("DRIED of k, 0 .. 8: its REACH, if the best k CELLS have DEAD 1", () -> {
            wall("wall 8 2;" + deads(16, 9) + "feeler 15 1;feeler 15 2;feeler 0 9;feeler 1 8;feeler 2 1;");
            for (int k = 0; k <= 8; k++) {
                dried(0, k, k < 8 ? -1 : 9);
                dried(1, k, -1);
                dried(2, k, 9);
                dried(3, k, k < 1 ? -1 : 9);
                dried(4, k, k < 2 ? -1 : 3);
            }
            walls(new int[][] {{101, 9}, {115, 9}});
        });
        edge("DRIED: more CELLS than there are, or than are above 1", () -> {
            wall("wall 1 1;feeler 0 5;");
            for (int k = 0; k <= 8; k++) dried(0, k, 5);
            wall("wall 3 1;" + deads(3, 1) + "feeler 2 7;feeler 2 8;");
            for (int k = 0; k <= 8; k++) {
                dried(0, k, 9);
                dried(1, k, -1);
            }
        });
        edge("Promise 26: NONE: another k", () -> {
            wall("wall 1 1;feeler 0 5;");
            for (int k : new int[] {-1, -2, 9, 10, MIN, MAX}) dried(0, k, -1);
        });
        edge("Promise 26: NONE: there is none such (of either)", () -> {
            wall("wall 1 1;feeler 0 5;");
            for (int odd : NO_SUCH) {
                dried(odd, 0, -1);
                due("dried at wall " + odd, x.dried(odd, 0, 0), -1);
            }
            wall("");
            dried(0, 8, -1);
        });
    }

    private static void dried(int feeler, int k, int want) { due("dried " + feeler + " " + k, x.dried(0, feeler, k), want); }

    public static void main(String[] args) {
        loss();
        shade();
        keysAndDried();
        Check.finish("EdgesOfWallsTest");
    }
}
