import java.io.IOException;
import java.lang.reflect.Method;
import java.lang.reflect.Modifier;
import java.nio.file.Files;
import java.nio.file.Path;
import java.util.regex.Matcher;
import java.util.regex.Pattern;

/** README.md is true: its example answers what it says there, and it names every call; run from the project's root. */
public final class ReadmeTest {
    private static final int LEAST_CALLS = 10;
    private static int wrong = 0;

    private static void due(String what, boolean holds) {
        if (!holds) {
            wrong++;
            System.out.println("README.md: " + what);
        }
    }

    private static Method named(String name) {
        for (Method method : SlipperDuke.class.getDeclaredMethods()) {
            if (method.getName().equals(name) && Modifier.isPublic(method.getModifiers())) return method;
        }
        throw new IllegalStateException("README.md has a call that there is not: " + name);
    }

    private static Object answer(SlipperDuke x, String name, String list) throws ReflectiveOperationException {
        String[] words = list.isEmpty() ? new String[0] : list.split(", ");
        Object[] values = new Object[words.length];
        for (int i = 0; i < words.length; i++) {
            boolean isTruth = words[i].equals("true") || words[i].equals("false");
            if (isTruth) values[i] = Boolean.valueOf(words[i]);
            else values[i] = words[i].equals("SlipperDuke.NONE") ? SlipperDuke.NONE : Integer.parseInt(words[i]);
        }
        return named(name).invoke(x, values);
    }

    private static String refusal(String word) {
        return switch (word) {
            case "NONE" -> "" + SlipperDuke.NONE;
            case "UNKNOWN" -> "" + SlipperDuke.UNKNOWN;
            case "OUTSIDE" -> "" + SlipperDuke.OUTSIDE;
            case "NOT" -> "" + SlipperDuke.NOT;
            case "FULL" -> "" + SlipperDuke.FULL;
            default -> word;
        };
    }

    /** Lines of the form: x.call(1, true);  // answer: why. */
    private static void example(String readme) throws ReflectiveOperationException {
        Matcher text = Pattern.compile("String text = \"(.*)\";").matcher(readme);
        due("a text is told", text.find());
        SlipperDuke x = new SlipperDuke();
        for (char letter : text.group(1).toCharArray()) x.feed(letter);
        Matcher calls = Pattern.compile("(?m)^x\\.(\\w+)\\(([^)]*)\\); *// (-?\\w+)").matcher(readme);
        int count = 0;
        while (calls.find()) {
            String got = "" + answer(x, calls.group(1), calls.group(2));
            due(calls.group() + " answered " + got, got.equals(refusal(calls.group(3))));
            count++;
        }
        due("calls with their answers: " + count, count >= LEAST_CALLS);
    }

    private static void everyCall(String readme) {
        for (Method method : SlipperDuke.class.getDeclaredMethods()) {
            boolean isNamed = readme.matches("(?s).*`" + method.getName() + "\\([\\w, ]*\\)`.*");
            due("nothing is said of " + method.getName(), isNamed || !Modifier.isPublic(method.getModifiers()));
        }
    }

    private static void everyTest(String readme) throws IOException {
        try (var files = Files.list(Path.of("src/test/java"))) {
            for (Path file : files.toList()) due("nothing is said of " + file.getFileName(), readme.contains("" + file.getFileName()));
        }
    }

    public static void main(String[] args) throws IOException, ReflectiveOperationException {
        String readme = Files.readString(Path.of("README.md"));
        example(readme);
        everyCall(readme);
        everyTest(readme);
        System.out.println(wrong == 0 ? "README.md is true" : wrong + " places in README.md are not true");
        if (wrong != 0) System.exit(1);
    }
}
