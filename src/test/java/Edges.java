/** What the tests of boundary cases share. */
abstract class Edges {
    static final int MIN = Integer.MIN_VALUE;
    static final int MAX = Integer.MAX_VALUE;
    /** DEAD 2 everywhere: a push of 9 at CELL 0 is 7 at CELL 1, then 5 at 0 and 2, 3 at 1, 1 at 0 and 2, nothing. */
    static final String LINE = "wall 3 1;";
    /** One CELL alone: its FORCE is the push of the beat, nothing comes back. */
    static final String ONE = "wall 1 1;";

    static DeafWall x;

    static void edge(String sentence, Runnable test) { Check.edge(sentence, test); }
    static void due(String call, long got, long want) { Check.due(call, got, want); }
    static void due(String call, boolean got, boolean want) { Check.due(call, got, want); }

    /** A new object with a WALL. */
    static void wall(String text) { x = Check.with(text, null, null); }

    /** A new object with a WALL and a DAY. */
    static void day(String text, String day) { x = Check.with(text, day, null); }

    /** A new object with a WALL and a LOG. */
    static void log(String text, String log) { x = Check.with(text, null, log); }

    /** A text of a sort, told to a new object, has no FAULT. */
    static void fine(int sort, String text) { fault(sort, text, 0, DeafWall.NONE); }

    /** A text of a sort, told to a new object, has this FAULT at this place. */
    static void fault(int sort, String text, int fault, int place) {
        x = new DeafWall();
        due("text of '" + text + "'", Check.take(x, sort, text), fault == 0 ? 0 : DeafWall.NONE);
        due("FAULT of '" + text + "'", x.fault(0), fault);
        due("place in '" + text + "'", x.fault(1), place);
        due("how many there are behind '" + text + "'", x.count(sort), fault == 0 ? 1 : 0);
    }

    static void walls(int[][] whatAndWant) {
        for (int[] row : whatAndWant) due("wall 0 " + row[0], x.wall(0, row[0]), row[1]);
    }

    static void states(int[][] nWhatAndWant) {
        for (int[] row : nWhatAndWant) due("state " + row[0] + " " + row[1], x.state(0, 0, row[0], row[1]), row[2]);
    }
}
