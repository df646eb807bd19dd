import java.io.IOException;
import java.lang.reflect.Field;
import java.lang.reflect.Method;
import java.lang.reflect.Modifier;
import java.nio.file.Files;
import java.nio.file.Path;
import java.util.Set;
import java.util.TreeSet;
import java.util.regex.Matcher;
import java.util.regex.Pattern;

/** Rules of LANGUAGE.md that can be looked at by a program; run from the project's root. */
public final class LanguageTest {
    private static final String FACE = "feed palace fault told room petition went hour carpet noise nail brick chalk sole teach drift undo "
        + "where when governed ring carpets bricks quietest stand willHear dance fit tells teachFor otherwise write tear judge seed keep goBack";
    private static final String CONSTANTS = "NONE UNKNOWN OUTSIDE NOT FULL";
    private static int wrong = 0;

    private static void due(String rule, boolean holds) {
        if (!holds) {
            wrong++;
            System.out.println("LANGUAGE.md, " + rule);
        }
    }

    private static void face() {
        Set<String> face = new TreeSet<>(Set.of(FACE.split(" ")));
        Set<String> seen = new TreeSet<>();
        for (Method m : SlipperDuke.class.getDeclaredMethods()) {
            if (Modifier.isPublic(m.getModifiers())) {
                seen.add(m.getName());
                due("1: " + m, m.getReturnType() == int.class);
            } else {
                due("1: " + m, Modifier.isPrivate(m.getModifiers()) && !face.contains(m.getName()));
            }
        }
        due("1: public methods are " + seen, seen.equals(face));
        for (Field f : SlipperDuke.class.getDeclaredFields()) {
            due("1: " + f, Modifier.isPublic(f.getModifiers()) ? CONSTANTS.contains(f.getName()) : Modifier.isPrivate(f.getModifiers()));
            due("5: " + f, !Modifier.isStatic(f.getModifiers()) || Modifier.isFinal(f.getModifiers()));
        }
        due("1: public and final", Modifier.isPublic(SlipperDuke.class.getModifiers()) && Modifier.isFinal(SlipperDuke.class.getModifiers()));
    }

    private static void classesInside() {
        Set<String> face = Set.of(FACE.split(" "));
        Class<?>[] inside = SlipperDuke.class.getDeclaredClasses();
        due("11: some twelve classes", inside.length < 12);
        for (Class<?> c : inside) {
            due("2: " + c + " is static", Modifier.isStatic(c.getModifiers()));
            due("11: some twenty fields in " + c, c.getDeclaredFields().length <= 20);
            for (Method m : c.getDeclaredMethods()) {
                due("1: " + m, !face.contains(m.getName()));
                due("11: " + m + " has at most seven parameters", m.getParameterCount() <= 7);
            }
        }
    }

    private static void source() throws IOException {
        String source = Files.readString(Path.of("src/main/java/SlipperDuke.java"));
        due("4: signs 1 to 127 alone", source.chars().allMatch(c -> c > 0 && c < 128));
        String code = source.replaceAll("(?s)/\\*.*?\\*/", "").replaceAll("//[^\n]*", "");
        Matcher m = Pattern.compile("\\b(throw|try|catch|synchronized|assert|package|volatile|native)\\b|->|::|\"").matcher(code);
        while (m.find()) due("6: no " + m.group(), false);
        Matcher i = Pattern.compile("import ([^;]*);").matcher(code);
        while (i.find()) due("4: import " + i.group(1), i.group(1).equals("java.util.Arrays"));
        Matcher calls = Pattern.compile("\\b(Arrays|Math|Integer|Long|System)\\.(\\w+)").matcher(code);
        Set<String> listed = Set.of("fill", "copyOf", "arraycopy", "min", "max", "abs", "bitCount");
        while (calls.find()) due("4: " + calls.group(), listed.contains(calls.group(2)));
    }

    /** A method ends at the first line that is as far in as its head and has a closing brace alone. */
    private static void shortMethods() throws IOException {
        String open = null;
        int lines = 0;
        for (String line : Files.readAllLines(Path.of("src/main/java/SlipperDuke.java"))) {
            if (open == null && line.matches(" +[\\w ]*[\\w\\[\\]]+ ?\\w*\\([^;]*\\) \\{") && line.matches("( {4}| {8})\\S.*") && !line.matches(" +(if|for|while|switch) .*")) {
                open = line;
                lines = 0;
            }
            lines++;
            if (open != null && line.matches(" +}") && line.indexOf('}') == open.indexOf(open.trim())) {
                due("11: some sixty lines," + open, lines <= 60);
                open = null;
            }
        }
        due("11: every method has an end", open == null);
    }

    public static void main(String[] args) throws IOException {
        face();
        classesInside();
        source();
        shortMethods();
        System.out.println(wrong == 0 ? "the rules hold" : wrong + " rules do not hold");
        if (wrong != 0) System.exit(1);
    }
}
