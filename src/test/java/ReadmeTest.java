import java.lang.reflect.Method;
import java.nio.file.Files;
import java.nio.file.Path;
import java.util.regex.Matcher;
import java.util.regex.Pattern;

/** The calls of README.md answer what it says, and every call of the face is on it. */
public final class ReadmeTest {
    private static final Pattern TAPE = Pattern.compile("^tape\\(x, \"([^\"]*)\"\\);$");
    private static final Pattern CALL = Pattern.compile("^x\\.(\\w+)\\(([^)]*)\\); +// (-?\\d+):.*$");

    private static Object argument(String word) {
        if (word.equals("DeafWall.NONE")) return DeafWall.NONE;
        return word.equals("true") || word.equals("false") ? (Object) Boolean.valueOf(word) : Integer.valueOf(word);
    }

    private static long answer(DeafWall x, String name, String arguments) throws Exception {
        String[] words = arguments.split(", ");
        Object[] values = new Object[words.length];
        for (int k = 0; k < words.length; k++) values[k] = argument(words[k]);
        for (Method m : DeafWall.class.getMethods())
            if (m.getDeclaringClass() == DeafWall.class && m.getName().equals(name)) return ((Number) m.invoke(x, values)).longValue();
        throw new IllegalStateException("no call " + name);
    }

    /** README's own way to put a text on the tape. */
    private static void tape(DeafWall x, String text) {
        for (int at = 0; at < text.length(); at += 20) {
            int[] five = new int[5];
            for (int k = 0; k < 20 && at + k < text.length(); k++) {
                five[k / 4] |= text.charAt(at + k) << 24 - 8 * (k % 4);
            }
            x.feed(five[0], five[1], five[2], five[3], five[4]);
        }
        Check.due("end of " + text, x.end(text.length()), text.length());
    }

    public static void main(String[] args) throws Exception {
        String readme = Files.readString(Path.of("README.md"));
        DeafWall x = new DeafWall();
        int calls = 0;
        for (String line : readme.split("\n")) {
            Matcher text = TAPE.matcher(line);
            Matcher call = CALL.matcher(line);
            if (text.matches()) tape(x, text.group(1));
            if (!call.matches()) continue;
            calls++;
            Check.due(line, answer(x, call.group(1), call.group(2)), Long.parseLong(call.group(3)));
        }
        Check.due("README has calls: " + calls, calls >= 20, true);
        for (Method m : DeafWall.class.getMethods())
            if (m.getDeclaringClass() == DeafWall.class)
                Check.due("README names " + m.getName(), readme.contains("`" + m.getName() + "`"), true);
        Check.finish("ReadmeTest");
    }
}
