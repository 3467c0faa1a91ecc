/** Boundary cases of term 4 (without DRAWN), of ODDS, FEW, MANY, and of promises 19, 20, 31, 32, sentence by sentence. */
public final class EdgesOfLogsTest extends Edges {
    /** It FEELS just the pushes of a TUNE. */
    private static final String EAR = "wall 1 1;feeler 0 9;";
    private static final int[] NO_SUCH = {1, 2, -1, -2, MIN, MAX};
    private static final int[] NO_LENGTHS = {0, -1, -2, 9, 10, 31, 32, 33, 40, -31, MIN, MIN + 1, MIN + 8, MAX};

    private static void fits(int n, int what, int want) {
        due("fits " + n + " " + what, x.fits(0, 0, n, what), want);
    }

    private static void lengths() {
        edge("By a LOG at a WALL, n, 1 .. 8: how many TUNES FIT", () -> {
            log(EAR, "");
            for (int n = 1; n <= 8; n++) fits(n, 0, 1 << n);
            log(EAR, "felt 0 0;not 0 1;");
            for (int n = 2; n <= 8; n++) fits(n, 0, 1 << n - 2);
            fits(1, 0, 1);
        });
        edge("if each FACT is so", () -> {
            log(EAR, "felt 0 0;not 0 0;");
            fits(8, 0, 0);
            log(EAR, "felt 0 0;felt 0 0;felt 0 0;felt 0 0;felt 0 0;felt 0 0;felt 0 0;not 0 1;");
            fits(2, 0, 1);
            fits(2, 10, 1);
            log(EAR, "felt 0 0;felt 0 1;felt 0 2;felt 0 3;felt 0 4;felt 0 5;felt 0 6;felt 0 7;");
            fits(8, 0, 1);
            fits(8, 10, 255);
            fits(7, 0, 0);
        });
        edge("FACTS of the beats behind a TUNE, up to 19", () -> {
            log(EAR, "not 0 19;not 0 8;");
            fits(8, 0, 256);
            log(EAR, "felt 0 19;");
            fits(8, 0, 0);
            log(EAR, "felt 0 7;");
            fits(8, 0, 128);
            fits(7, 0, 0);
        });
        edge("(of a FEELER that is not there: never)", () -> {
            for (String fact : new String[] {"felt 1 0;", "not 1 0;", "not 5 19;", "not 0 19;not 1 19;"}) {
                log(EAR, fact);
                for (int n = 1; n <= 8; n++) fits(n, 0, 0);
                fits(8, 10, -2);
            }
            log("", "not 0 0;");
            fits(1, 0, 0);
        });
        edge("the k-th, rising", () -> {
            log(EAR, "not 0 0;");
            for (int k = 0; k < 128; k++) fits(8, 10 + k, 2 * k);
            fits(8, 138, -2);
            log(EAR, "");
            for (int k = 0; k < 256; k++) fits(8, 10 + k, k);
            fits(8, 266, -2);
            fits(1, 10, 0);
            fits(1, 11, 1);
            fits(1, 12, -2);
        });
    }

    private static void sureAndAsk() {
        edge("SURE: beats at which all that FIT push 9, at which all push 0", () -> {
            log(EAR, "felt 0 0;not 0 1;");
            for (int n = 2; n <= 8; n++) {
                fits(n, 1, 1);
                fits(n, 2, 2);
            }
            fits(1, 1, 1);
            fits(1, 2, 0);
            log(EAR, "not 0 0;");
            fits(1, 1, 0);
            fits(1, 2, 1);
            log(EAR, "felt 0 0;felt 0 1;felt 0 2;felt 0 3;felt 0 4;felt 0 5;felt 0 6;felt 0 7;");
            fits(8, 1, 255);
            fits(8, 2, 0);
            log(EAR, "not 0 0;not 0 1;not 0 2;not 0 3;not 0 4;not 0 5;not 0 6;not 0 7;");
            fits(8, 1, 0);
            fits(8, 2, 255);
        });
        edge("SURE: (nothing FITS: none)", () -> {
            log(EAR, "felt 0 19;");
            for (int n = 1; n <= 8; n++) {
                fits(n, 1, 0);
                fits(n, 2, 0);
            }
        });
        edge("ASK: 10 times the beat, and the FEELER, of several the least", () -> {
            log(EAR, "");
            fits(1, 3, 0);
            fits(8, 3, 0);
            log(EAR, "felt 0 0;");
            fits(1, 3, 0);
            fits(2, 3, 10);
            log("wall 2 1;dead 1 9;feeler 1 9;feeler 0 9;feeler 0 9;", "");
            fits(1, 3, 1);
            log("wall 2 1;dead 1 9;" + "feeler 1 9;".repeat(5) + "feeler 0 9;", "felt 5 0;felt 5 1;felt 5 2;felt 5 3;felt 5 4;felt 5 5;felt 5 6;");
            fits(8, 3, 75);
        });
        edge("ASK: the beat, 0 .. 19", () -> {
            // eight steps away: a push is FELT eight beats later; the last one of a TUNE is not known yet
            log("wall 8 2;" + EdgesOfTunesTest.deads(16, 1) + "feeler 15 1;", "felt 0 8;felt 0 9;felt 0 10;felt 0 11;felt 0 12;felt 0 13;felt 0 14;");
            fits(8, 3, 150);
            fits(8, 0, 2);
        });
        edge("ASK: the greater number, by which it FEELS then or not, is least", () -> {
            // FEELER 0 FEELS at beat 2 of a push at 0 or at 2 (3 of 4), at beat 0 of one at 0 (2 of 4)
            log("wall 3 1;feeler 0 5;", "not 0 1;");
            fits(3, 3, 0);
            log("wall 3 1;feeler 0 5;", "felt 0 2;not 0 1;");
            fits(3, 3, 0);
            fits(3, 0, 3);
        });
        edge("Promise 19: 3: ASK (NONE: nothing FITS, or no FEELERS)", () -> {
            log(EAR, "felt 0 19;");
            fits(1, 3, -1);
            log("", "");
            fits(1, 3, -1);
            fits(8, 3, -1);
            fits(8, 0, 256);
            log("", "not 0 0;");
            fits(1, 3, -1);
        });
    }

    private static void refused() {
        edge("Promise 19: -2: there is none such (of any)", () -> {
            log(EAR, "");
            for (int odd : NO_SUCH) {
                due("fits at wall " + odd, x.fits(odd, 0, 1, 0), -2);
                due("fits by log " + odd, x.fits(0, odd, 1, 0), -2);
            }
        });
        edge("Promise 19: -2: another n", () -> {
            log(EAR, "");
            for (int n : NO_LENGTHS) for (int what : new int[] {0, 1, 2, 3, 10}) fits(n, what, -2);
        });
        edge("Promise 19: -2 for another what", () -> {
            log(EAR, "");
            for (int what : new int[] {4, 5, 9, -1, -2, -10, 18, 19, MIN, MIN + 10, MAX}) fits(3, what, -2);
            fits(3, 17, 7);
        });
    }

    // ---- brick ----

    private static void bricks(int cell, int n, int tune, int want) {
        due("brick " + cell + " " + n + " " + tune, x.brick(0, 0, cell, n, tune), want);
    }

    private static void brick() {
        edge("BRICK: of which DEADS of that CELL, 1 .. 9, all FACTS are so (bits 1 .. 9)", () -> {
            log("wall 2 1;feeler 1 1;", "felt 0 1;");
            bricks(1, 1, 1, 510);
            bricks(0, 1, 1, 1022);
            bricks(1, 1, 0, 0);
            log("wall 2 1;feeler 1 1;", "not 0 1;");
            bricks(1, 1, 1, 512);
            bricks(1, 1, 0, 1022);
            log("wall 2 1;feeler 1 8;", "felt 0 1;");
            bricks(1, 1, 1, 2);
            log("wall 2 1;feeler 1 9;", "felt 0 1;");
            bricks(1, 1, 1, 0);
        });
        edge("BRICK: no FACTS, a FEELER that is not there", () -> {
            log("wall 2 1;feeler 1 1;", "");
            bricks(1, 8, 255, 1022);
            log("wall 2 1;feeler 1 1;", "not 1 19;");
            bricks(1, 8, 255, 0);
        });
        edge("BRICK: all else as told", () -> {
            log("wall 3 1;dead 1 9;dead 2 1;feeler 2 1;", "felt 0 2;");
            bricks(1, 1, 1, 254);
            bricks(2, 1, 1, 0);
            bricks(0, 1, 1, 0);
            walls(new int[][] {{100, 2}, {101, 9}, {102, 1}});
            due("reach", x.reach(0, 0, false), -1);
        });
        edge("Promise 20: NONE: there is none such (of any)", () -> {
            log("wall 2 1;feeler 1 1;", "");
            for (int odd : NO_SUCH) {
                due("brick at wall " + odd, x.brick(odd, 0, 0, 1, 1), -1);
                due("brick by log " + odd, x.brick(0, odd, 0, 1, 1), -1);
            }
            for (int cell : new int[] {2, 3, 31, 32, -1, MIN, MAX}) bricks(cell, 1, 1, -1);
            for (int n : NO_LENGTHS) bricks(0, n, 0, -1);
            for (int n = 1; n <= 8; n++) {
                bricks(0, n, (1 << n) - 1, 1022);
                for (int tune : new int[] {1 << n, -1, MIN, MAX}) bricks(0, n, tune, -1);
            }
            log("wall 8 4;", "");
            bricks(31, 1, 1, 1022);
            bricks(32, 1, 1, -1);
        });
    }

    // ---- odds, few ----

    private static void odds(int n, int beat, long over, long under) {
        due("odds " + n + " " + beat, x.odds(0, 0, n, beat, false), over);
        due("odds " + n + " " + beat + ", under", x.odds(0, 0, n, beat, true), under);
    }

    private static void odds() {
        edge("ODDS of a beat below n: a fraction in least terms", () -> {
            log(EAR, "");
            for (int n = 1; n <= 8; n++) for (int beat = 0; beat < n; beat++) odds(n, beat, 1, 2);
            log(EAR, "felt 0 0;not 0 1;");
            odds(8, 0, 1, 1);
            odds(8, 1, 0, 1);
            odds(8, 7, 1, 2);
            odds(1, 0, 1, 1);
            log("wall 3 1;feeler 0 5;", "felt 0 2;");
            odds(3, 0, 2, 3);
            odds(3, 2, 2, 3);
            odds(3, 1, 1, 2);
        });
        edge("Promise 31: NONE: nothing FITS", () -> {
            log(EAR, "felt 0 19;");
            for (int n = 1; n <= 8; n++) odds(n, 0, -1, -1);
        });
        edge("Promise 31: NONE: another beat", () -> {
            log(EAR, "");
            for (int n = 1; n <= 8; n++) for (int beat : new int[] {n, n + 1, -1, MIN, MAX}) odds(n, beat, -1, -1);
        });
        edge("Promise 31: NONE: another n", () -> {
            log(EAR, "");
            for (int n : NO_LENGTHS) {
                odds(n, 0, -1, -1);
                odds(n, -1, -1, -1);
            }
            odds(9, 8, -1, -1);
        });
        edge("Promise 31: NONE: there is none such (of any)", () -> {
            log(EAR, "");
            for (int odd : NO_SUCH) {
                due("odds at wall " + odd, x.odds(odd, 0, 1, 0, false), -1);
                due("under at wall " + odd, x.odds(odd, 0, 1, 0, true), -1);
                due("odds by log " + odd, x.odds(0, odd, 1, 0, false), -1);
                due("under by log " + odd, x.odds(0, odd, 1, 0, true), -1);
            }
        });
    }

    private static void few(int n, int few, int many) {
        due("few " + n, x.few(0, 0, n, false), few);
        due("many " + n, x.few(0, 0, n, true), many);
    }

    private static void fewAndMany() {
        edge("FEW, MANY: how many pushes of 9 a TUNE has that FITS, at least, at most", () -> {
            log(EAR, "");
            for (int n = 1; n <= 8; n++) few(n, 0, n);
            log(EAR, "felt 0 0;not 0 1;");
            few(8, 1, 7);
            few(1, 1, 1);
            log(EAR, "not 0 0;");
            few(1, 0, 0);
            log("wall 3 1;feeler 0 5;", "felt 0 2;");
            few(3, 1, 3);
        });
        edge("Promise 32: NONE: nothing FITS", () -> {
            log(EAR, "felt 0 19;");
            for (int n = 1; n <= 8; n++) few(n, -1, -1);
        });
        edge("Promise 32: NONE: another n", () -> {
            log(EAR, "");
            for (int n : NO_LENGTHS) few(n, -1, -1);
        });
        edge("Promise 32: NONE: there is none such (of any)", () -> {
            log(EAR, "");
            for (int odd : NO_SUCH) {
                due("few at wall " + odd, x.few(odd, 0, 1, false), -1);
                due("many at wall " + odd, x.few(odd, 0, 1, true), -1);
                due("few by log " + odd, x.few(0, odd, 1, false), -1);
                due("many by log " + odd, x.few(0, odd, 1, true), -1);
            }
        });
    }

    public static void main(String[] args) {
        lengths();
        sureAndAsk();
        refused();
        brick();
        odds();
        fewAndMany();
        Check.finish("EdgesOfLogsTest");
    }
}
