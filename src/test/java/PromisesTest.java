/** Promise by promise: ordinary inputs, the edges that the document names, wrong inputs; all answers found by hand. */
public final class PromisesTest {
    private static final int MIN = Integer.MIN_VALUE;
    private static final int MAX = Integer.MAX_VALUE;

    /** DEAD 2 everywhere: a push of 9 at CELL 0 is 7 at 1 and 3, 5 at 2 and 4 and again at 0, 3 at 5, 1 at 0, 2, 4. */
    private static final String WALL = "feeler 0 1; feeler 5 1; feeler 4 9; tale 1; tale 0 1; tale 1 0 1;";
    private static final String DAY = "play 9; play 0; wet 1; play 0; hush 0; play 9; touch 0; move 1 0; play 0;"
        + "dry 1; move 1 0; play 9;";

    private static DeafWall x;

    private static void due(String call, long got, long want) { Check.due(call, got, want); }
    private static void due(String call, boolean got, boolean want) { Check.due(call, got, want); }
    private static void start(String wall, String day, String log) { x = Check.with(wall, day, log); }

    private static void promise1NewObject() {
        x = new DeafWall();
        for (int sort = 0; sort < 3; sort++) due("1 count", x.count(sort), 0);
        for (int k = 0; k < 3; k++) due("1 again", x.again(k), false);
        due("1 fault", x.fault(0), 0);
        due("1 place", x.fault(1), -1);
        due("1 end", x.end(0), 0);
        due("1 end", x.end(1), -1);
        due("1 NONE", DeafWall.NONE, -1);
    }

    private static void promise2feed() {
        x = new DeafWall();
        for (int k = 1; k <= 30; k++) due("2 feed", x.feed(k, MIN, MAX, -1, 0), 20 * k);
        due("2 feed over 600", x.feed(0, 0, 0, 0, 0), -1);
        due("2 still 600", x.end(600), 600);
        due("2 cut", x.end(581), 581);
        due("2 feed to 601", x.feed(0, 0, 0, 0, 0), -1);
        due("2 nothing came", x.end(582), -1);
        due("2 cut", x.end(580), 580);
        due("2 feed to 600", x.feed(0, 0, 0, 0, 0), 600);
        x = new DeafWall();
        x.feed(0x77616c6c, 0x20352031, 0x3b200a20, 0x64656164, 0x20342037);
        x.feed(0x3b202020, 0x20202020, 0x20202020, 0x20202020, 0x20202020);
        due("2 highest byte first", x.text(0, -1), 0);
        due("2 W", x.wall(0, 0), 5);
        due("2 H", x.wall(0, 1), 1);
        due("2 DEAD", x.wall(0, 104), 7);
        x.feed(0xe9e9e9e9, 0, 0, 0, 0);
        due("2 byte above 127", x.text(0, -1), -1);
        due("2 its place", x.fault(1), 0);
    }

    private static void promise3end() {
        x = new DeafWall();
        x.feed(1, 2, 3, 4, 5);
        due("3 end", x.end(21), -1);
        due("3 end", x.end(-1), -1);
        due("3 end", x.end(MIN), -1);
        due("3 end", x.end(MAX), -1);
        due("3 end", x.end(20), 20);
        due("3 end", x.end(7), 7);
        due("3 end", x.end(8), -1);
        due("3 end", x.end(0), 0);
        due("3 feed", x.feed(1, 2, 3, 4, 5), 20);
    }

    /** A text() that reads nothing takes the tape all the same, whatever is on it, and has no FAULT. */
    private static void refused(String why, int sort, int at) {
        for (String text : new String[] {"", "x", "wall 1 1;", "play 9;", " ".repeat(600)}) {
            start("wall 4 4;", null, null);
            due("4 second", Check.take(x, 0, "wall 5 1;"), 1);
            Check.tape(x, text);
            due("4 " + why + ": " + sort + ", " + at, x.text(sort, at), -2);
            due("4 FAULT 0", x.fault(0), 0);
            due("4 its place", x.fault(1), -1);
            due("4 tape is empty", x.end(1), -1);
            due("4 feed begins anew", x.feed(0, 0, 0, 0, 0), 20);
            due("4 walls stay", x.count(0), 2);
            due("4 the first wall stays", x.wall(0, 1), 4);
            due("4 the second wall stays", x.wall(1, 0), 5);
        }
    }

    private static void promise4text() {
        refused("too many", 0, -1);
        refused("none such", 0, 2);
        refused("none such", 0, -2);
        refused("none such", 1, 0);
        refused("none such", 2, MAX);
        refused("no such sort", 3, -1);
        refused("no such sort", -1, -1);
        refused("no such sort", MIN, 0);
        x = new DeafWall();
        due("4 first", Check.take(x, 0, "wall 4 4;"), 0);
        due("4 tape is empty", x.end(1), -1);
        due("4 second", Check.take(x, 0, "wall 5 1;"), 1);
        Check.tape(x, "x");
        due("4 an image of the tape", x.image(0), true);
        due("4 too many", x.text(0, -1), -2);
        due("4 the image again", x.again(0), true);
        due("4 has its tape", x.end(1), 1);
        due("4 a FAULT", x.text(0, 1), -1);
        due("4 FAULT 1", x.fault(0), 1);
        due("4 tape is empty", x.end(1), -1);
        due("4 the wall stayed", x.wall(1, 0), 5);
        due("4 -2 clears the FAULT", x.text(0, 5), -2);
        due("4 FAULT 0", x.fault(0), 0);
        due("4 its place", x.fault(1), -1);
        Check.tape(x, "wall 1 1;");
        due("4 in the place", x.text(0, 0), 0);
        due("4 new", x.wall(0, 0), 1);
        due("4 other", x.wall(1, 0), 5);
        due("4 walls", x.count(0), 2);
        for (int sort = 1; sort < 3; sort++) {
            due("4 empty text", x.text(sort, -1), 0);
            due("4 empty text", x.text(sort, -1), 1);
            due("4 too many", x.text(sort, -1), -2);
        }
        due("4 default", x.text(0, 1), 1);
        due("4 W at first", x.wall(1, 0), 3);
        due("4 H at first", x.wall(1, 1), 2);
        due("4 DEAD at first", x.wall(1, 105), 2);
    }

    private static void fault(int sort, String text, int fault, int place) {
        x = new DeafWall();
        due("5 text '" + text + "'", Check.take(x, sort, text), fault == 0 ? 0 : -1);
        due("5 fault '" + text + "'", x.fault(0), fault);
        due("5 place '" + text + "'", x.fault(1), place);
    }

    private static void promise5fault() {
        String[] fine = {"", " ", "\n \n", "wall 8 4;", "wall 1 1;", "wall 08 04;", "wall3 2;", "\n wall\n3 2 ;\n", "tale 0;",
            "tale 1 1 1 1 1 1;", "dead 6 1; wall 8 1;", "wall 8 4;dead 31 9;source 31;feeler 31 9;", "dead0 1;dead 5 9;"};
        for (String text : fine) fault(0, text, 0, -1);
        Object[][] one = {{"wall", 4}, {"wall ", 5}, {"wall 3", 6}, {"wall 3 2", 8}, {"wall 3 2 \n", 10}, {"wall 3 2 1;", 9},
            {"wall 32;", 7}, {"wall 100 2;", 5}, {"wall 3 002;", 7}, {"Wall 3 2;", 0}, {"walls 3 2;", 0}, {"wallz 3 2;", 0}, {"zwall 3 2;", 0}, {"tall 3 2;", 0}, {"wale 3 2;", 0}, {"wool 3 2;", 0}, {"wal 3 2;", 0},
            {"wall 3 2;x", 9}, {"wall 3 2;;", 9}, {";", 0}, {"3", 0}, {"tale;", 4}, {"tale", 4}, {"tale 1", 6}, {"tale 1 x", 7},
            {"tale 0 0 0 0 0 0 0", 18}, {"play 1;", 0}, {"felt 0 0;", 0}, {"wall\t3 2;", 4}, {"wall 3-2;", 6}, {"wall ;", 5},
            {"source 1 2;", 9}, {"wall 9 9; source", 16}, {"wall 9 2; x", 10}, {"\u00e9", 0}, {"\0", 0}, {"wall 3 2;\r", 9}};
        for (Object[] row : one) fault(0, (String) row[0], 1, (Integer) row[1]);
        Object[][] two = {{"wall 9 2;", 5}, {"wall 0 2;", 5}, {"wall 3 5;", 7}, {"wall 3 0;", 7}, {"dead 32 1;", 5}, {"dead 0 0;", 7},
            {"dead 0 10;", 7}, {"source 32;", 7}, {"feeler 32 1;", 7}, {"feeler 0 0;", 9}, {"feeler 0 10;", 9}, {"tale 2;", 5},
            {"tale 1 0 99;", 9}, {"tale 2; wall 9 2;", 5}, {"dead 99 99;", 5}, {"tale 0 0 0 0 0 0 2;", 17}, {"source 9; wall 9 1;", 15}};
        for (Object[] row : two) fault(0, (String) row[0], 2, (Integer) row[1]);
        String six = "feeler 0 1;".repeat(6);
        fault(0, six, 0, -1);
        fault(0, six + "  feeler 0 10;", 3, 68);
        fault(0, six + "wall 9 1;feeler 0 1;", 2, 71);
        fault(0, "tale 1;".repeat(6), 0, -1);
        fault(0, "tale 1;".repeat(7) + "feeler 99 1;", 3, 42);
        fault(0, "tale 0 0 0 0 0 0 0;", 3, 17);
        fault(0, "tale 0 0 0 0 0 0 1 2;", 3, 17);
        fault(0, "dead 6 1;", 4, 9);
        fault(0, "source 6;  ", 4, 11);
        fault(0, "feeler 6 1;", 4, 11);
        fault(0, "wall 8 1;dead 7 1;wall 3 2;", 4, 27);
        fault(0, "source 6;source 0;", 4, 18);
        fault(0, "source 6;tale 2;", 2, 14);
        faultsOfDaysAndLogs();
        due("5 another what", x.fault(2), -1);
        due("5 another what", x.fault(-1), -1);
    }

    private static void faultsOfDaysAndLogs() {
        fault(1, "play 0;play 9;wet 31;wet 0;dry 31;dry 0;hush 5;touch 0;move 5 31;", 0, -1);
        Object[][] day = {{"play 10;", 2, 5}, {"wet 32;", 2, 4}, {"dry 32;", 2, 4}, {"hush 6;", 2, 5}, {"touch 6;", 2, 6},
            {"move 6 0;", 2, 5}, {"move 0 32;", 2, 7}, {"play;", 1, 4}, {"play 1 1;", 1, 7}, {"move 1;", 1, 6}, {"wall 3 2;", 1, 0},
            {"move 9 9;play", 1, 13}};
        for (Object[] row : day) fault(1, (String) row[0], (Integer) row[1], (Integer) row[2]);
        fault(1, "dry 0;".repeat(40), 0, -1);
        fault(1, "dry 0;".repeat(41), 3, 240);
        fault(1, "dry 0;".repeat(40) + " dry 99;", 3, 241);
        fault(2, "felt 0 0;not 5 19;", 0, -1);
        Object[][] log = {{"felt 6 0;", 2, 5}, {"felt 0 20;", 2, 7}, {"not 6 0;", 2, 4}, {"not 0 20;", 2, 6}, {"felt 0;", 1, 6},
            {"not 0 0 0;", 1, 8}, {"nott 0 0;", 1, 0}};
        for (Object[] row : log) fault(2, (String) row[0], (Integer) row[1], (Integer) row[2]);
        fault(2, "not 0 1;".repeat(8), 0, -1);
        fault(2, "not 0 1;".repeat(9), 3, 64);
    }

    private static void promise6wall() {
        start("wall 4 4;wall 4 2;dead 1 3;dead 1 5;source 1;source 7;feeler 2 9;feeler 2 3;tale 1 0 0;tale 0 1 1 0 1 1;", null, null);
        int[][] want = {{0, 4}, {1, 2}, {2, 7}, {3, 2}, {4, 2}, {10, 2}, {11, 2}, {20, 9}, {21, 3}, {30, 3}, {31, 6}, {40, 1},
            {41, 54}, {100, 2}, {101, 5}, {107, 2}, {108, -1}, {12, -1}, {22, -1}, {32, -1}, {42, -1}, {5, -1}, {9, -1}, {50, -1},
            {99, -1}, {-1, -1}, {MIN, -1}, {MAX, -1}, {132, -1}};
        for (int[] row : want) due("6 wall " + row[0], x.wall(0, row[0]), row[1]);
        due("6 none such", x.wall(1, 0), -1);
        due("6 SOURCE 0 again", Check.take(x, 0, "source 4;source 0;dead 0 5;dead 0 1;"), 1);
        due("6 SOURCE 0 again", x.wall(1, 2), 0);
        due("6 DEAD 1 again", x.wall(1, 100), 1);
        due("6 none such", x.wall(-1, 0), -1);
    }

    private static void promise7deed() {
        start("", DAY, null);
        int[][] want = {{-1, 0, 12}, {0, 0, 0}, {0, 1, 9}, {0, 2, -1}, {2, 0, 1}, {2, 1, 1}, {2, 2, -1}, {9, 0, 2}, {4, 0, 3}, {6, 0, 4},
            {7, 0, 5}, {7, 1, 1}, {7, 2, 0}, {-1, 1, -2}, {-1, 2, -2}, {12, 0, -2}, {-2, 0, -2}, {0, 3, -2}, {0, -1, -2}, {MAX, 0, -2}};
        for (int[] row : want) due("7 deed " + row[0] + " " + row[1], x.deed(0, row[0], row[1]), row[2]);
        due("7 none such", x.deed(1, -1, 0), -2);
        due("7 none such", x.deed(-1, -1, 0), -2);
    }

    private static void stops(String day, int stop) {
        start("wall 2 1;dead 0 9;dead 1 1;feeler 0 1;", day, null);
        due("8 stop of " + day, x.stop(0, 0), stop);
    }

    private static void promise8stop() {
        start(WALL, DAY, null);
        due("8 stop", x.stop(0, 0), 12);
        due("8 none such", x.stop(1, 0), -1);
        due("8 none such", x.stop(0, 1), -1);
        due("8 none such", x.stop(-1, -1), -1);
        stops("", 0);
        stops("play 9;wet 0;play 1;", 1);
        stops("wet 1;dry 1;dry 1;", 2);
        stops("dry 0;wet 0;wet 0;", 2);
        stops("wet 2;", 0);
        stops("play 0;dry 2;", 1);
        stops("hush 0;hush 0;touch 0;touch 0;hush 1;", 4);
        stops("touch 1;", 0);
        stops("move 0 1;move 0 1;move 0 2;", 2);
        stops("move 1 0;", 0);
        stops("wet 1;wet 1;wet 1;wet 1;wet 1;wet 1;wet 1;wet 1;play 1;wet 1;", 9);
    }

    private static void promise9state() {
        start(WALL, DAY, null);
        int[][] want = {{12, 0, 6}, {12, 1, 0}, {12, 2, 5}, {12, 10, 0}, {12, 11, 0}, {12, 12, 4}, {12, 20, 4}, {12, 21, 3}, {12, 22, 0},
            {12, 30, 7}, {12, 31, 3}, {12, 32, 0}, {12, 40, 43}, {12, 41, 7}, {12, 42, 0}, {12, 100, 9}, {12, 101, 0}, {12, 102, 4},
            {12, 103, 0}, {12, 104, 5}, {12, 105, 0}, {12, 201, 2}, {12, 200, 2}, {3, 0, 2}, {3, 201, 3}, {3, 101, 7}, {3, 100, 0},
            {4, 100, 5}, {4, 104, 5}, {4, 101, 0}, {4, 40, 5}, {4, 30, 7}, {5, 1, 1}, {6, 40, 10}, {6, 101, 2}, {6, 105, 3}, {6, 41, 1},
            {6, 31, 3}, {7, 11, 5}, {8, 11, 0}, {9, 101, 6}, {9, 103, 7}, {9, 100, 1}, {9, 40, 21}, {9, 41, 3}, {0, 0, 0}, {0, 2, 0}, {0, 10, 0},
            {0, 11, 5}, {0, 20, 0}, {0, 30, 0}, {0, 40, 0}, {0, 100, 0}, {0, 205, 2}, {1, 40, 1}, {1, 30, 1}, {1, 31, 0},
            {13, 0, -2}, {-1, 0, -2}, {12, 3, -2}, {12, -1, -2}, {12, 13, -2}, {12, 23, -2}, {12, 33, -2}, {12, 43, -2}, {12, 106, -2},
            {12, 206, -2}, {12, 9, -2}, {12, 99, -2}, {12, MIN, -2}, {12, MAX, -2}, {MAX, 0, -2}};
        for (int[] row : want) due("9 state " + row[0] + " " + row[1], x.state(0, 0, row[0], row[1]), row[2]);
        due("9 none such", x.state(1, 0, 0, 0), -2);
        due("9 none such", x.state(0, 1, 0, 0), -2);
        start("wall 1 1;feeler 0 1;tale 0 0;tale 0;", "hush 0;play 9;play 9;wet 5;play 9;", null);
        due("9 up to STOP", x.state(0, 0, 3, 0), 2);
        due("9 behind STOP", x.state(0, 0, 4, 0), -2);
        due("9 fewer beats than MARKS", x.state(0, 0, 2, 30), 2);
        due("9 hushed MARKS are 0", x.state(0, 0, 3, 30), 3);
        due("9 FORCE of a CELL alone", x.state(0, 0, 3, 100), 9);
    }

    private static void promise10tune() {
        start(WALL, null, null);
        int[][] want = {{1, 1, 0, 1}, {1, 1, 1, 0}, {1, 1, 2, 1}, {1, 1, 3, 2}, {1, 1, 4, 1}, {1, 1, 5, 0}, {1, 1, 19, 0}, {1, 1, 20, -2},
            {1, 1, 29, -2}, {1, 1, 30, 7}, {1, 1, 31, 3}, {1, 1, 32, 0}, {1, 1, 33, -2}, {1, 1, 40, 50}, {1, 1, 41, -2}, {1, 1, -1, -2},
            {8, 0, 40, 0}, {8, 0, 30, 0}, {2, 3, 40, 100}, {2, 2, 40, 50}, {2, 2, 0, 0}, {2, 2, 1, 1}, {2, 2, 4, 2}, {3, 5, 31, 7}, {2, 3, 31, 3},
            {8, 255, 11, 1}, {8, 255, 10, 3}, {8, 255, 12, 0}, {0, 0, 0, -2}, {9, 0, 0, -2}, {2, 4, 0, -2}, {2, -1, 0, -2}, {8, 256, 0, -2},
            {1, 1, MIN, -2}, {1, 1, MAX, -2}, {MIN, 0, 0, -2}};
        for (int[] row : want) due("10 tune " + row[0] + " " + row[1] + " " + row[2], x.tune(0, row[0], row[1], row[2]), row[3]);
        due("10 none such", x.tune(1, 1, 1, 0), -2);
    }

    private static void promise11reach() {
        start(WALL, null, null);
        int[][] want = {{0, 1, 0}, {1, 7, 3}, {2, -1, -1}, {3, -1, -1}, {-1, -1, -1}};
        for (int[] row : want) {
            due("11 reach " + row[0], x.reach(0, row[0], false), row[1]);
            due("11 when " + row[0], x.reach(0, row[0], true), row[2]);
        }
        due("11 none such", x.reach(1, 0, false), -1);
        start("dead 1 9;dead 2 1;dead 3 1;dead 4 1;dead 5 1;feeler 2 1;feeler 2 5;feeler 2 6;", null, null);
        due("11 round about", x.reach(0, 0, false), 5);
        due("11 round about, when", x.reach(0, 0, true), 4);
        due("11 just 9", x.reach(0, 1, false), 9);
        due("11 over 9", x.reach(0, 2, false), -1);
    }

    private static void promise12play() {
        start(WALL, null, null);
        int[][] want = {{0, 0, 1, 1}, {0, 2, 1, 1}, {1, 2, 3, 5}, {1, 1, 1, 1}, {2, 0, -1, -1}, {3, 0, -1, -1}, {0, 3, -1, -1}, {-1, 0, -1, -1},
            {0, -1, -1, -1}};
        for (int[] row : want) {
            due("12 play " + row[0] + " " + row[1], x.play(0, row[0], row[1], false), row[2]);
            due("12 which " + row[0] + " " + row[1], x.play(0, row[0], row[1], true), row[3]);
        }
        due("12 none such", x.play(1, 0, 0, false), -1);
        start("wall 1 1;feeler 0 9;tale 0;tale 1 0 0 1 1;tale 1 1 1 1 1 1;", null, null);
        due("12 nothing is pushed", x.play(0, 0, 0, false), 1);
        due("12 nothing is pushed", x.play(0, 0, 0, true), 0);
        due("12 n", x.play(0, 0, 1, false), 5);
        due("12 which", x.play(0, 0, 1, true), 25);
        due("12 which", x.play(0, 0, 2, true), 63);
        // a push is felt again two beats later, so four beats of rest want a push at 0 and one at 7; at 0, 2, 4 even at 9
        start("feeler 0 3;feeler 0 1;tale 1 0 0 0 0 1;", null, null);
        due("12 the longest", x.play(0, 0, 0, false), 8);
        due("12 the longest, which", x.play(0, 0, 0, true), 129);
        due("12 longer than any", x.play(0, 1, 0, false), -1);
        due("12 longer than any, which", x.play(0, 1, 0, true), -1);
    }

    private static void promise13most() {
        start(WALL, null, null);
        due("13 most 1", x.most(0, 1, false), 5);
        due("13 which 1", x.most(0, 1, true), 1);
        due("13 most 3", x.most(0, 3, false), 6);
        due("13 which 3", x.most(0, 3, true), 5);
        due("13 another n", x.most(0, 0, false), -1);
        due("13 another n", x.most(0, 9, true), -1);
        due("13 none such", x.most(1, 1, false), -1);
        start("tale 1;", null, null);
        due("13 no feelers", x.most(0, 8, false), 0);
        due("13 no feelers, which", x.most(0, 8, true), 0);
    }

    private static void promise14duet() {
        start(WALL, null, null);
        int[][] want = {{0, 1, 1, 2, 6}, {1, 0, 1, 0, 0}, {0, 1, 2, 2, 6}, {1, 0, 2, -2, 0}, {0, 1, 0, 0, -1}, {0, 1, 5, -99, -99},
            {0, 1, -1, -99, -99}, {0, 0, 1, -99, -99}, {0, 3, 1, -99, -99}, {-1, 0, 1, -99, -99}};
        for (int[] row : want) {
            due("14 duet " + row[0] + " " + row[1] + " " + row[2], x.duet(0, row[0], row[1], row[2], false), row[3]);
            due("14 first " + row[0] + " " + row[1] + " " + row[2], x.duet(0, row[0], row[1], row[2], true), row[4]);
        }
        due("14 none such", x.duet(1, 0, 1, 1, false), -99);
        // one feels every push from 3 on, the other those of 9 alone: he plays 3, 3 at beats 0 and 2, she 0 or 9 at 1 and 3
        start("wall 1 1;feeler 0 2;feeler 0 8;", null, null);
        due("14 duet 4", x.duet(0, 0, 1, 4, false), 2);
        due("14 first of 4", x.duet(0, 0, 1, 4, true), 3);
        due("14 other way", x.duet(0, 1, 0, 4, false), -2);
        due("14 first, other way", x.duet(0, 1, 0, 4, true), 0);
    }

    private static void arm(int feeler, int p, int n, long over, long under) {
        due("15 arm " + feeler + " " + p + " " + n, x.arm(0, feeler, p, n, false), over);
        due("15 under " + feeler + " " + p + " " + n, x.arm(0, feeler, p, n, true), under);
    }

    private static void promise15arm() {
        start(WALL, null, null);
        arm(1, 5, 3, 7, 8);
        arm(1, 5, 2, 1, 1);
        arm(1, 10, 3, 0, 1);
        arm(1, 10, 2, 1, 1);
        arm(1, 0, 12, 1, 1);
        arm(1, 1, 3, 999, 1000);
        arm(1, 5, 12, 79, 4096);
        arm(1, 3, 12, 50563069571L, 200000000000L);
        arm(0, 5, 12, 3797, 4096);
        arm(0, 10, 12, 0, 1);
        arm(0, 10, 8, 1, 1);
        arm(2, 5, 0, 0, 1);
        arm(1, 7, 0, 1, 1);
        arm(0, 11, 1, -1, -1);
        arm(0, -1, 1, -1, -1);
        arm(0, 1, 13, -1, -1);
        arm(0, 1, -1, -1, -1);
        arm(3, 1, 1, -1, -1);
        arm(-1, 1, 1, -1, -1);
        due("15 none such", x.arm(1, 0, 1, 1, false), -1);
    }

    private static void code(String tales, int want) {
        start(tales, null, null);
        due("16 code of " + tales, x.code(0), want);
    }

    private static void promise16code() {
        code(WALL, 3);
        code("", 0);
        code("tale 1 0 1;", 0);
        code("tale 0;tale 1;", 0);
        code("tale 0;tale 0;", 1);
        code("tale 0 1 1;tale 1;tale 0 1 1;", 3);
        code("tale 0;tale 0 1;tale 1 1;", 0);
        code("tale 0;tale 0 1;tale 1 0;", 3);
        code("tale 0 0;tale 0 0 0;", 5);
        code("tale 1;tale 0 1 1;tale 0 1 1 1 0;tale 1 1 1 0;tale 1 0 0 1 1;", 6);
        code("tale 0 0 0 0 0;tale 0 0 0 0 0 0;", 11);
        due("16 none such", x.code(1), -1);
        due("16 none such", x.code(-1), -1);
    }

    private static void promise17ways() {
        start(WALL, null, null);
        long[] want = {1, 1, 2, 4, 7, 13, 24};
        for (int n = 0; n < want.length; n++) due("17 ways " + n, x.ways(0, n), want[n]);
        due("17 ways 20", x.ways(0, 20), 121415);
        due("17 another n", x.ways(0, 21), -1);
        due("17 another n", x.ways(0, -1), -1);
        due("17 none such", x.ways(1, 0), -1);
        start("tale 1;tale 0;tale 0;tale 0;tale 1;tale 1;", null, null);
        due("17 six each time", x.ways(0, 20), 3656158440062976L);
        start("", null, null);
        due("17 no tales", x.ways(0, 0), 1);
        due("17 no tales", x.ways(0, 1), 0);
    }

    private static void promise18fact() {
        start("", null, "felt 1 3; not 5 19;");
        int[][] want = {{-1, 0, 2}, {0, 0, 0}, {0, 1, 1}, {0, 2, 3}, {1, 0, 1}, {1, 1, 5}, {1, 2, 19}, {2, 0, -2}, {-2, 0, -2}, {-1, 1, -2},
            {0, 3, -2}, {0, -1, -2}};
        for (int[] row : want) due("18 fact " + row[0] + " " + row[1], x.fact(0, row[0], row[1]), row[2]);
        due("18 none such", x.fact(1, -1, 0), -2);
        due("18 none such", x.fact(-1, -1, 0), -2);
    }

    private static void promise19fits() {
        start(WALL, null, "felt 1 3; not 1 5;");
        due("19 second log", Check.take(x, 2, "not 5 0;"), 1);
        int[][] want = {{3, 0, 2}, {3, 1, 1}, {3, 2, 4}, {3, 3, 10}, {3, 10, 1}, {3, 11, 3}, {3, 12, -2}, {3, 4, -2}, {3, 9, -2}, {3, -1, -2},
            {3, MAX, -2}, {3, MIN, -2}, {1, 0, 1}, {1, 2, 0}, {0, 0, -2}, {9, 0, -2}, {8, 0, 64}};
        for (int[] row : want) due("19 fits " + row[0] + " " + row[1], x.fits(0, 0, row[0], row[1]), row[2]);
        int[][] never = {{0, 0}, {1, 0}, {2, 0}, {3, -1}, {10, -2}};
        for (int[] row : never) due("19 a FEELER that is not there " + row[0], x.fits(0, 1, 3, row[0]), row[1]);
        due("19 none such", x.fits(1, 0, 1, 0), -2);
        due("19 none such", x.fits(0, 2, 1, 0), -2);
        Check.tape(x, "");
        due("19 empty log", x.text(2, 1), 1);
        int[][] all = {{3, 0, 8}, {3, 1, 0}, {3, 2, 0}, {3, 3, 0}, {3, 17, 7}, {3, 18, -2}, {8, 265, 255}, {8, 266, -2}};
        for (int[] row : all) due("19 all fit " + row[0] + " " + row[1], x.fits(0, 1, row[0], row[1]), row[2]);
        start("", null, "");
        due("19 no feelers", x.fits(0, 0, 2, 0), 4);
        due("19 no feelers, ASK", x.fits(0, 0, 2, 3), -1);
    }

    private static void promise20brick() {
        start("wall 3 1;feeler 2 3;", null, "felt 0 2;");
        due("20 second log", Check.take(x, 2, "not 0 2;"), 1);
        int[][] want = {{0, 1, 1, 1, 30}, {0, 2, 1, 1, 30}, {0, 0, 1, 1, 1022}, {0, 1, 1, 0, 0}, {1, 1, 1, 1, 992}, {1, 1, 8, 2, 1022},
            {0, 3, 1, 1, -1}, {0, -1, 1, 1, -1}, {0, 1, 0, 0, -1}, {0, 1, 9, 0, -1}, {0, 1, 1, 2, -1}, {0, 1, 1, -1, -1}, {2, 1, 1, 1, -1}};
        for (int[] row : want) due("20 brick " + row[1], x.brick(0, row[0], row[1], row[2], row[3]), row[4]);
        due("20 none such", x.brick(1, 0, 0, 1, 1), -1);
        due("20 as told still", x.wall(0, 101), 2);
        Check.tape(x, "felt 1 0;");
        x.text(2, 0);
        due("20 a FEELER that is not there", x.brick(0, 0, 0, 1, 1), 0);
        Check.tape(x, "");
        x.text(2, 0);
        due("20 no FACTS", x.brick(0, 0, 0, 1, 1), 1022);
    }

    /** Seed 1 draws 16838 (touch), 38526 (FEELER 0), 10113 (play), 50283 (a push of 3), 63819 (move), 38395 (FEELER 1). */
    private static void promise21drawn() {
        start(WALL, null, null);
        due("21 nothing yet", x.drawn(0, 1, 0, 0), 0);
        due("21 nothing yet", x.drawn(0, 1, 0, 11), 5);
        due("21 a touch", x.drawn(0, 1, 1, 0), 0);
        due("21 a play", x.drawn(0, 1, 2, 100), 3);
        due("21 n", x.drawn(0, 1, 61, 0), -2);
        due("21 n", x.drawn(0, 1, -1, 0), -2);
        due("21 what", x.drawn(0, 1, 1, 3), -2);
        due("21 what", x.drawn(0, 1, 1, 13), -2);
        due("21 what", x.drawn(0, 1, 1, 106), -2);
        due("21 none such", x.drawn(1, 1, 1, 0), -2);
        // seed 0 draws 0 (play), 54236 (a push of 6), 42756 (dry), 54885 (CELL 3)
        due("21 seed 0, beats", x.drawn(0, 0, 1, 0), 1);
        due("21 seed 0, push", x.drawn(0, 0, 1, 100), 6);
        due("21 seed 0, DEAD", x.drawn(0, 0, 1, 203), 2);
        due("21 seed 0, dried", x.drawn(0, 0, 2, 203), 1);
        drawnBeside(WALL, 3);
        drawnBeside("wall 2 1;dead 0 1;dead 1 9;", 0);
    }

    /** The same draws told as a day, as far as each may be. */
    private static void drawnBeside(String wall, int feelers) {
        start(wall, null, null);
        int cells = x.wall(0, 0) * x.wall(0, 1);
        for (int seed = -5; seed < 40; seed++) {
            StringBuilder day = new StringBuilder();
            int[] drawn = {seed * 7919};
            int deeds = 0;
            for (int k = 0; k < 40; k++) {
                String deed = drawDeed(drawn, cells, feelers);
                if (deed.isEmpty()) continue;
                Check.tape(x, day + deed);
                due("21 day", x.text(1, x.count(1) == 0 ? -1 : 0), 0);
                if (x.stop(0, 0) > deeds) { day.append(deed); deeds++; }
            }
            Check.tape(x, day.toString());
            x.text(1, 0);
            int[] whats = {0, 1, 2, 10, 11, 20, 22, 31, 40, 100, 101, 200, 201};
            for (int what : whats) due("21 drawn " + seed + " " + what, x.drawn(0, seed * 7919, 40, what), x.state(0, 0, deeds, what));
        }
    }

    private static int draw(int[] drawn, int n) {
        drawn[0] = drawn[0] * 1103515245 + 12345;
        return (drawn[0] >>> 16) % n;
    }

    private static String drawDeed(int[] drawn, int cells, int feelers) {
        int kind = draw(drawn, 10);
        if (kind < 5) return "play " + draw(drawn, 10) + ";";
        if (kind < 7) return (kind == 5 ? "wet " : "dry ") + draw(drawn, cells) + ";";
        if (feelers == 0) return "";
        if (kind < 9) return (kind == 7 ? "hush " : "touch ") + draw(drawn, feelers) + ";";
        int feeler = draw(drawn, feelers);
        return "move " + feeler + " " + draw(drawn, cells) + ";";
    }

    private static void promise22loss() {
        start("dead 1 9;dead 2 1;dead 3 1;dead 4 1;dead 5 1;", null, null);
        int[][] want = {{0, 2, 4, 2}, {2, 0, 5, 2}, {0, 1, 9, 1}, {1, 1, 0, 0}, {5, 3, 2, 2}, {0, 5, 3, 3}, {0, 6, -1, -1}, {-1, 0, -1, -1},
            {MAX, 0, -1, -1}};
        for (int[] row : want) {
            due("22 loss " + row[0] + " " + row[1], x.loss(0, row[0], row[1], false), row[2]);
            due("22 steps " + row[0] + " " + row[1], x.loss(0, row[0], row[1], true), row[3]);
        }
        due("22 none such", x.loss(1, 0, 0, false), -1);
        // DEAD 1, but for two walls of 9: from 0 down, along, up to 2 is better than straight through CELL 1
        StringBuilder snake = new StringBuilder("wall 8 4;");
        for (int c = 0; c < 32; c++) {
            boolean hard = c == 1 || c == 9 || c == 17 || c == 11 || c == 19 || c == 27;
            snake.append("dead " + c + (hard ? " 9;" : " 1;"));
        }
        start(snake.toString(), null, null);
        due("22 around", x.loss(0, 0, 3, false), 9);
        due("22 around, steps", x.loss(0, 0, 3, true), 3);
        due("22 far", x.loss(0, 0, 31, false), 16);
        due("22 far, steps", x.loss(0, 0, 31, true), 10);
    }

    private static void shade(int[] want) {
        for (int what = 0; what < want.length; what++) due("23 shade " + what, x.shade(0, what), want[what]);
    }

    private static void promise23shade() {
        start(WALL, null, null);
        shade(new int[] {0, -1, 5, 6, 0, 12, 0, 0, 0, -2});
        due("23 what", x.shade(0, -1), -2);
        due("23 none such", x.shade(1, 0), -2);
        start("wall 8 1;", null, null);
        shade(new int[] {3, 5, 7, 14, 0, 16, -1, 0, 0});
        start("wall 2 2;source 3;dead 0 5;dead 3 7;feeler 1 4;feeler 1 3;feeler 2 3;feeler 1 9;", null, null);
        shade(new int[] {0, -1, 0, 7, 3, 16, 1, 3, 4});
        start("wall 1 1;", null, null);
        shade(new int[] {0, -1, 0, 0, 0, 2, -1, 0, 0});
    }

    private static void promise24apart() {
        start(WALL, null, null);
        due("24 apart", x.apart(0, 0, 1, 1), 1);
        due("24 apart", x.apart(0, 1, 0, 3), 7);
        due("24 apart", x.apart(0, 1, 2, 8), 255);
        due("24 n", x.apart(0, 0, 1, 0), -1);
        due("24 n", x.apart(0, 0, 1, 9), -1);
        due("24 not two", x.apart(0, 1, 1, 1), -1);
        due("24 none such", x.apart(0, 0, 3, 1), -1);
        due("24 none such", x.apart(0, -1, 0, 1), -1);
        due("24 none such", x.apart(1, 0, 1, 1), -1);
        start("feeler 1 2;feeler 3 2;feeler 2 2;feeler 2 6;", null, null);
        due("24 alike", x.apart(0, 0, 1, 8), 0);
        due("24 one never feels", x.apart(0, 2, 3, 4), 15);
    }

    private static void promise25keys() {
        start("wall 3 1;feeler 2 3;", null, null);
        due("25 keys", x.keys(0, 0, false), 2);
        due("25 first", x.keys(0, 0, true), 1);
        start("wall 2 2;feeler 3 1;", null, null);
        due("25 two ways", x.keys(0, 0, false), 1);
        due("25 two ways, first", x.keys(0, 0, true), 3);
        start(WALL, null, null);
        due("25 none", x.keys(0, 0, false), 0);
        due("25 none, first", x.keys(0, 0, true), -1);
        due("25 no REACH", x.keys(0, 2, false), -2);
        due("25 no REACH", x.keys(0, 2, true), -2);
        due("25 none such", x.keys(0, 3, false), -2);
        due("25 none such", x.keys(0, -1, true), -2);
        due("25 none such", x.keys(1, 0, false), -2);
        due("25 as told still", x.wall(0, 105), 2);
    }

    private static void promise26dried() {
        start("wall 3 1;dead 1 5;dead 2 4;feeler 2 3;feeler 0 4;feeler 1 9;", null, null);
        int[][] want = {{0, 0, -1}, {0, 1, 8}, {0, 2, 5}, {0, 8, 5}, {0, 9, -1}, {0, -1, -1}, {1, 0, 4}, {1, 8, 4}, {2, 8, -1}, {3, 1, -1}, {-1, 1, -1}};
        for (int[] row : want) due("26 dried " + row[0] + " " + row[1], x.dried(0, row[0], row[1]), row[2]);
        due("26 none such", x.dried(1, 0, 0), -1);
        // straight by one CELL of 9, or around by three of 2: once it is dried, straight is better
        start("dead 1 9;feeler 2 1;", null, null);
        due("26 around", x.dried(0, 0, 0), 9);
        due("26 straight", x.dried(0, 0, 1), 4);
        due("26 straight, two", x.dried(0, 0, 2), 3);
    }

    private static void promise27loud() {
        start(WALL, null, null);
        int[][] want = {{1, 4, 1}, {2, 8, 3}, {8, 20, 255}, {0, -1, -1}, {9, -1, -1}};
        for (int[] row : want) {
            due("27 loud " + row[0], x.loud(0, row[0], false), row[1]);
            due("27 which " + row[0], x.loud(0, row[0], true), row[2]);
        }
        due("27 none such", x.loud(1, 1, false), -1);
        start("feeler 5 9;", null, null);
        due("27 nobody", x.loud(0, 3, false), 0);
        due("27 nobody, which", x.loud(0, 3, true), 0);
    }

    private static void promise28hold() {
        start(WALL, null, null);
        int[][] want = {{1, 9, 0, 17}, {1, 9, 1, 3}, {1, 9, 2, 17}, {1, 7, 0, 17}, {1, 6, 0, 0}, {1, 6, 1, -1}, {1, 6, 2, 0}, {0, 1, 0, 20}, {0, 1, 1, 0},
            {0, 1, 2, 20}, {0, 0, 0, 0}, {0, 10, 0, -2}, {0, -1, 0, -2}, {0, 1, 3, -2}, {0, 1, -1, -2}, {3, 1, 0, -2}, {-1, 1, 0, -2}};
        for (int[] row : want) due("28 hold " + row[0] + " " + row[1] + " " + row[2], x.hold(0, row[0], row[1], row[2]), row[3]);
        due("28 none such", x.hold(1, 0, 1, 0), -2);
    }

    private static void promise29rhyme() {
        start("tale 1 0 1 1;tale 0 1 1;tale 1 1 0;tale 1;tale 0 0;", null, null);
        int[][] want = {{0, 1, 3, 0, 0, 3, 0}, {1, 0, 3, 0, 1, 3, 0}, {0, 2, 0, 1, 0, 2, 0}, {1, 2, 0, 0, 0, 2, 1}, {2, 1, 0, 0, 0, 2, 1}, {0, 3, 1, 1, 0, 1, 0},
            {3, 0, 1, 1, 1, 1, 0}, {0, 0, 4, 4, 1, 4, 0}, {3, 3, 1, 1, 1, 1, 1}, {4, 4, 2, 2, 1, 2, 1}, {3, 4, 0, 0, 0, 0, 0}, {4, 0, 0, 0, 0, 1, 0},
            {2, 0, 0, 1, 0, 2, 0}};
        for (int[] row : want)
            for (int what = 0; what < 5; what++) due("29 rhyme " + row[0] + " " + row[1] + " " + what, x.rhyme(0, row[0], row[1], what), row[2 + what]);
        due("29 what", x.rhyme(0, 0, 1, 5), -1);
        due("29 what", x.rhyme(0, 0, 1, -1), -1);
        due("29 none such", x.rhyme(0, 5, 0, 0), -1);
        due("29 none such", x.rhyme(0, 0, -1, 0), -1);
        due("29 none such", x.rhyme(1, 0, 0, 0), -1);
    }

    private static void after(String wall, String day, int[] want) {
        start(wall, day, null);
        for (int what = 0; what < want.length; what++) due("30 after '" + day + "' " + what, x.after(0, 0, what), want[what]);
    }

    private static void promise30after() {
        after(WALL, DAY, new int[] {0, 4, 0, 27, 1, 1, -2});
        due("30 what", x.after(0, 0, -1), -2);
        due("30 none such", x.after(1, 0, 0), -2);
        due("30 none such", x.after(0, 1, 0), -2);
        after(WALL, "", new int[] {-1, -1, -1, 0, 0, 0});
        after(WALL, "play 0;play 0;", new int[] {-1, 0, -1, 0, 2, 0});
        after(WALL, "move 0 5;play 9;move 0 0;move 0 0;play 8;hush 3;move 0 1;play 9;", new int[] {1, 1, 0, 17, 1, 2});
        after("feeler 1 1;feeler 0 9;", "play 0;play 9;play 5;play 9;", new int[] {1, 3, 0, 23, 1, 0});
        after("feeler 1 9;feeler 0 9;", "play 0;play 9;play 9;", new int[] {1, 1, 1, 18, 1, 0});
        after("", "play 3;", new int[] {-1, 0, -1, 3, 1, 0});
    }

    private static void promise31odds() {
        start(WALL, null, "felt 1 3; not 1 5;");
        due("31 second log", Check.take(x, 2, "felt 5 0;"), 1);
        int[][] want = {{3, 0, 1, 1}, {3, 1, 1, 2}, {3, 2, 0, 1}, {3, 3, -1, -1}, {3, -1, -1, -1}, {0, 0, -1, -1}, {9, 0, -1, -1}, {8, 7, 1, 2}};
        for (int[] row : want) {
            due("31 odds " + row[0] + " " + row[1], x.odds(0, 0, row[0], row[1], false), row[2]);
            due("31 under " + row[0] + " " + row[1], x.odds(0, 0, row[0], row[1], true), row[3]);
        }
        due("31 nothing FITS", x.odds(0, 1, 3, 0, false), -1);
        due("31 nothing FITS", x.odds(0, 1, 3, 0, true), -1);
        due("31 none such", x.odds(1, 0, 3, 0, false), -1);
        due("31 none such", x.odds(0, 2, 3, 0, false), -1);
        // FEELER 0 felt at beat 2 of a push at 0 or at 2: 3 of 4, each push in 2 of these 3
        Check.tape(x, "felt 0 2;");
        x.text(2, 0);
        due("31 two of three", x.odds(0, 0, 3, 0, false), 2);
        due("31 two of three", x.odds(0, 0, 3, 0, true), 3);
    }

    private static void promise32few() {
        start(WALL, null, "felt 1 3; not 1 5;");
        due("32 second log", Check.take(x, 2, "not 4 0;"), 1);
        due("32 few", x.few(0, 0, 3, false), 1);
        due("32 many", x.few(0, 0, 3, true), 2);
        due("32 many of 8", x.few(0, 0, 8, true), 7);
        due("32 nothing FITS", x.few(0, 1, 3, false), -1);
        due("32 nothing FITS", x.few(0, 1, 3, true), -1);
        due("32 n", x.few(0, 0, 0, false), -1);
        due("32 n", x.few(0, 0, 9, true), -1);
        due("32 none such", x.few(1, 0, 1, false), -1);
        due("32 none such", x.few(0, 2, 1, false), -1);
        x.end(0);
        x.text(2, 0);
        due("32 few of all", x.few(0, 0, 8, false), 0);
        due("32 many of all", x.few(0, 0, 8, true), 8);
    }

    private static void promise33count() {
        x = new DeafWall();
        x.text(0, -1);
        x.text(0, -1);
        x.text(1, -1);
        due("33 walls", x.count(0), 2);
        due("33 days", x.count(1), 1);
        due("33 logs", x.count(2), 0);
        due("33 another", x.count(3), -2);
        due("33 another", x.count(-1), -2);
        due("33 another", x.count(MIN), -2);
    }

    private static void promise34and35images() {
        start("wall 5 1;", DAY, "felt 0 1;");
        Check.tape(x, "tale 2;");
        due("34 a FAULT", x.text(0, 0), -1);
        Check.tape(x, "wall 4 4;");
        due("34 image", x.image(0), true);
        due("34 another", x.image(3), false);
        due("34 another", x.image(-1), false);
        due("34 another", x.image(MAX), false);
        due("35 none such", x.again(1), false);
        due("35 none such", x.again(3), false);
        due("35 none such", x.again(-1), false);
        due("34 tape stays", x.text(0, 0), 0);
        x.text(0, -1);
        x.text(1, 0);
        x.text(2, -1);
        due("34 second image", x.image(2), true);
        for (int times = 0; times < 2; times++) {
            due("35 again", x.again(0), true);
            due("35 walls", x.count(0), 1);
            due("35 W", x.wall(0, 0), 5);
            due("35 deeds", x.deed(0, -1, 0), 12);
            due("35 logs", x.count(2), 1);
            due("35 FAULT", x.fault(0), 2);
            due("35 its place", x.fault(1), 5);
            due("35 tape's length", x.end(10), -1);
            due("35 tape", x.text(0, 0), 0);
            due("35 tape's text", x.wall(0, 1), 4);
        }
        due("35 other image stays", x.again(2), true);
        due("35 walls", x.count(0), 2);
        due("35 W", x.wall(0, 0), 4);
        due("35 deeds", x.deed(0, -1, 0), 0);
        due("35 logs", x.count(2), 2);
        due("35 FAULT", x.fault(0), 0);
        due("34 anew", x.image(0), true);
        x.text(0, 0);
        due("35 anew", x.again(0), true);
        due("35 W anew", x.wall(0, 0), 4);
    }

    public static void main(String[] args) {
        promise1NewObject();
        promise2feed();
        promise3end();
        promise4text();
        promise5fault();
        promise6wall();
        promise7deed();
        promise8stop();
        promise9state();
        promise10tune();
        promise11reach();
        promise12play();
        promise13most();
        promise14duet();
        promise15arm();
        promise16code();
        promise17ways();
        promise18fact();
        promise19fits();
        promise20brick();
        promise21drawn();
        promise22loss();
        promise23shade();
        promise24apart();
        promise25keys();
        promise26dried();
        promise27loud();
        promise28hold();
        promise29rhyme();
        promise30after();
        promise31odds();
        promise32few();
        promise33count();
        promise34and35images();
        Check.finish("PromisesTest");
    }
}
