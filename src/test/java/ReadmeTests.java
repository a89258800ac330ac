import java.io.IOException;
import java.lang.reflect.Method;
import java.lang.reflect.Modifier;
import java.nio.charset.StandardCharsets;
import java.nio.file.Files;
import java.nio.file.Path;
import java.util.regex.Matcher;
import java.util.regex.Pattern;

/** The example of README.md: each of its calls answers what the comment behind it says. */
public final class ReadmeTests {
    private static final String FIRST_LINE = "BinnedReads reads = new BinnedReads();";
    private static final Pattern CALL =
            Pattern.compile("reads\\.(\\w+)\\(([-\\d, ]*)\\);\\s+// (true|false|-?\\d+)(:.*)?");

    private static int calls = 0;
    private static int wrong = 0;

    public static void main(String[] args) throws IOException, ReflectiveOperationException {
        String readme = Files.readString(Path.of("README.md"), StandardCharsets.UTF_8);
        BinnedReads reads = new BinnedReads();
        for (String line : exampleOf(readme).split("\n")) {
            if (!line.isBlank() && !line.equals(FIRST_LINE)) {
                play(reads, line);
            }
        }
        if (calls == 0) {
            fail("README.md has no example");
        }
        mustSay(readme, ".ci/run");
        for (Method method : BinnedReads.class.getDeclaredMethods()) {
            if (Modifier.isPublic(method.getModifiers())) {
                mustSay(readme, "`" + method.getName() + "(");
            }
        }
        System.out.println(wrong == 0 ? "README.md holds" : "README.md does not hold");
        if (wrong != 0) {
            System.exit(1);
        }
    }

    private static String exampleOf(String readme) {
        Matcher example = Pattern.compile("```java\n(.*?)```", Pattern.DOTALL).matcher(readme);
        return example.find() ? example.group(1) : "";
    }

    private static void play(BinnedReads reads, String line) throws ReflectiveOperationException {
        Matcher call = CALL.matcher(line);
        if (!call.matches()) {
            fail("not a call with its answer: " + line);
            return;
        }
        calls++;
        String answer = answerOf(reads, call.group(1), call.group(2));
        if (!answer.equals(call.group(3))) {
            fail("answered " + answer + ": " + line);
        }
    }

    private static String answerOf(BinnedReads reads, String name, String list)
            throws ReflectiveOperationException {
        String[] texts = list.isBlank() ? new String[0] : list.split(", ");
        Class<?>[] types = new Class<?>[texts.length];
        Object[] values = new Object[texts.length];
        for (int i = 0; i < texts.length; i++) {
            types[i] = int.class;
            values[i] = Integer.valueOf(texts[i]);
        }
        return String.valueOf(BinnedReads.class.getMethod(name, types).invoke(reads, values));
    }

    private static void mustSay(String readme, String words) {
        if (!readme.contains(words)) {
            fail("README.md does not say " + words);
        }
    }

    private static void fail(String what) {
        wrong++;
        System.out.println(what);
    }
}
