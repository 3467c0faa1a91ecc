import java.nio.ByteBuffer;
import java.nio.charset.StandardCharsets;

/** What all tests share: answers that are due, and texts put on the tape. */
final class Check {
    private static int asked = 0;
    private static int wrong = 0;
    /** The sentence of the document that is being tested, if any. */
    private static String sentence = "";

    static void due(String call, long got, long want) {
        asked++;
        if (got != want) tell(call + " answered " + got + ", due is " + want);
    }

    private static void tell(String what) {
        wrong++;
        if (wrong <= 50) System.out.println(sentence + what);
    }

    /** One test of one sentence: what is not as due is told with it; a call that throws fails this test alone. */
    static void edge(String words, Runnable test) {
        int before = asked;
        sentence = "\"" + words + "\": ";
        try {
            test.run();
        } catch (RuntimeException e) {
            tell("threw " + e);
        }
        if (asked == before) tell("asked nothing");
        sentence = "";
    }

    static void due(String call, boolean got, boolean want) {
        due(call, got ? 1 : 0, want ? 1 : 0);
    }

    /** Puts a text behind the tape (its signs are bytes), blank rest of the last feed cut off. */
    static void tape(DeafWall x, String text) {
        byte[] bytes = text.getBytes(StandardCharsets.ISO_8859_1);
        int before = x.end(0);
        due("end(0)", before, 0);
        for (int at = 0; at < bytes.length; at += 20) {
            byte[] twenty = new byte[20];
            System.arraycopy(bytes, at, twenty, 0, Math.min(20, bytes.length - at));
            ByteBuffer b = ByteBuffer.wrap(twenty);
            x.feed(b.getInt(), b.getInt(), b.getInt(), b.getInt(), b.getInt());
        }
        due("end of " + text, x.end(bytes.length), bytes.length);
    }

    static int take(DeafWall x, int sort, String text) {
        tape(x, text);
        return x.text(sort, DeafWall.NONE);
    }

    static DeafWall with(String wall, String day, String log) {
        DeafWall x = new DeafWall();
        due("wall " + wall, take(x, 0, wall), 0);
        if (day != null) due("day " + day, take(x, 1, day), 0);
        if (log != null) due("log " + log, take(x, 2, log), 0);
        return x;
    }

    static void finish(String name) {
        System.out.println(name + ": " + (asked - wrong) + " answers as due, " + wrong + " not");
        if (wrong != 0) System.exit(1);
    }
}
