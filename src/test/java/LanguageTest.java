import java.lang.reflect.Constructor;
import java.lang.reflect.Field;
import java.lang.reflect.Method;
import java.lang.reflect.Modifier;
import java.nio.file.Files;
import java.nio.file.Path;
import java.util.Arrays;
import java.util.List;
import java.util.Set;
import java.util.TreeSet;
import java.util.regex.Matcher;
import java.util.regex.Pattern;

/** The rules of LANGUAGE.md that can be seen in the source or in the compiled face. */
public final class LanguageTest {
    private static final String FACE = "feed(int,int,int,int,int)int end(int)int text(int,int)int fault(int)int wall(int,int)int "
        + "deed(int,int,int)int stop(int,int)int state(int,int,int,int)int tune(int,int,int,int)int reach(int,int,boolean)int "
        + "play(int,int,int,boolean)int most(int,int,boolean)int duet(int,int,int,int,boolean)int arm(int,int,int,int,boolean)long "
        + "code(int)int ways(int,int)long fact(int,int,int)int fits(int,int,int,int)int brick(int,int,int,int,int)int "
        + "drawn(int,int,int,int)int loss(int,int,int,boolean)int shade(int,int)int apart(int,int,int,int)int keys(int,int,boolean)int "
        + "dried(int,int,int)int loud(int,int,boolean)int hold(int,int,int,int)int rhyme(int,int,int,int)int after(int,int,int)int "
        + "odds(int,int,int,int,boolean)long few(int,int,int,boolean)int count(int)int image(int)boolean again(int)boolean";
    private static final Set<Class<?>> STATICS = Set.of(int.class, long.class, boolean.class, char.class, String.class, int[].class,
        long[].class, char[].class, byte[].class);

    private static void rule(String what, boolean kept) { Check.due(what, kept, true); }

    private static void face() {
        Set<String> got = new TreeSet<>();
        Set<String> names = new TreeSet<>();
        for (Method m : DeafWall.class.getDeclaredMethods()) {
            if (m.isSynthetic()) continue;
            if (!Modifier.isPublic(m.getModifiers())) { rule("1 private " + m, Modifier.isPrivate(m.getModifiers())); continue; }
            StringBuilder s = new StringBuilder(m.getName() + "(");
            for (Class<?> p : m.getParameterTypes()) s.append(s.toString().endsWith("(") ? "" : ",").append(p.getName());
            got.add(s + ")" + m.getReturnType().getName());
            names.add(m.getName());
            rule("not static " + m, !Modifier.isStatic(m.getModifiers()));
        }
        for (Method m : DeafWall.class.getDeclaredMethods())
            if (Modifier.isPrivate(m.getModifiers())) rule("1 the name of a public one: " + m, m.isSynthetic() || !names.contains(m.getName()));
        Set<String> want = new TreeSet<>(Arrays.asList(FACE.split(" ")));
        rule("1 the face: " + got, got.equals(want));
        rule("1 final", Modifier.isFinal(DeafWall.class.getModifiers()) && Modifier.isPublic(DeafWall.class.getModifiers()));
        Constructor<?>[] made = DeafWall.class.getDeclaredConstructors();
        rule("1 one constructor", made.length == 1 && Modifier.isPublic(made[0].getModifiers()) && made[0].getParameterCount() == 0);
        for (Class<?> inside : DeafWall.class.getDeclaredClasses()) {
            rule("2 static " + inside, Modifier.isStatic(inside.getModifiers()) && !Modifier.isPublic(inside.getModifiers()));
            for (Method m : inside.getDeclaredMethods()) {
                rule("1 the name of a public one: " + m, m.isSynthetic() || !names.contains(m.getName()));
                rule("11 parameters of " + m, m.getParameterCount() <= 7);
            }
        }
        rule("11 classes", DeafWall.class.getDeclaredClasses().length <= 12);
    }

    private static void fields(Class<?> type) {
        int own = 0;
        for (Field f : type.getDeclaredFields()) {
            int mod = f.getModifiers();
            if (f.isSynthetic()) continue;
            if (!Modifier.isStatic(mod)) { own++; continue; }
            rule("5 " + f, Modifier.isFinal(mod) && STATICS.contains(f.getType()));
            if (type == DeafWall.class) rule("1 " + f, Modifier.isPrivate(mod) || f.getName().equals("NONE"));
        }
        rule("11 fields of " + type, own <= 20);
    }

    private static void source(String text) {
        String bare = text.replaceAll("(?s)/\\*.*?\\*/", " ").replaceAll("//[^\n]*", " ");
        String noTexts = bare.replaceAll("\"[^\"]*\"", "T").replaceAll("'[^']*'", "0");
        String[] banned = {"\\bthrow\\b", "\\bthrows\\b", "\\btry\\b", "\\bcatch\\b", "\\bfinally\\b", "\\bsynchronized\\b", "\\bassert\\b", "->", "::", "@",
            "Exact\\b", "\\bpackage\\b", "\\bvar\\b", "\\bT \\+", "\\+ T\\b", "\\bdouble\\b", "\\bfloat\\b", "\\bObject\\b", "\\bString\\.", "\\bSystem\\.(?!arraycopy)",
            "\\bequals\\b", "\\bhashCode\\b", "\\btoString\\b", "static \\{", "while \\(true\\)", "for \\(;;\\)", "\\bThread\\b", "\\bRandom\\b"};
        for (String b : banned) rule("no " + b, !Pattern.compile(b).matcher(noTexts).find());
        Matcher imports = Pattern.compile("import ([^;]+);").matcher(bare);
        List<String> may = List.of("java.util.Arrays", "java.util.ArrayList", "java.util.List");
        while (imports.find()) rule("4 import " + imports.group(1), may.contains(imports.group(1)));
        for (char c : text.toCharArray()) if (c > 126 || c < 32 && c != '\n') { rule("3 sign " + (int) c, false); break; }
    }

    private static void lengths(List<String> lines) {
        int from = -1;
        String indent = "";
        for (int k = 0; k < lines.size(); k++) {
            Matcher m = Pattern.compile("^( {4}| {8})(public |private |static |final )*[\\w\\[\\]]+ ?\\w*\\(.*\\) \\{$").matcher(lines.get(k));
            if (from < 0 && m.find()) { from = k; indent = m.group(1); }
            if (from >= 0 && lines.get(k).equals(indent + "}")) { rule("11 length at line " + from, k - from < 60); from = -1; }
        }
    }

    public static void main(String[] args) throws Exception {
        Path file = Path.of("src/main/java/DeafWall.java");
        face();
        fields(DeafWall.class);
        for (Class<?> inside : DeafWall.class.getDeclaredClasses()) fields(inside);
        source(Files.readString(file));
        lengths(Files.readAllLines(file));
        Check.finish("LanguageTest");
    }
}
