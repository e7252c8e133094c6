import java.io.IOException;
import java.lang.reflect.Method;
import java.lang.reflect.Modifier;
import java.nio.file.Files;
import java.nio.file.Path;
import java.util.regex.Matcher;
import java.util.regex.Pattern;

/** What README.md shows: its example answers what it says, and each call is named. */
public final class ReadmeTest {
    private static final Pattern CALL = Pattern.compile("x\\.(\\w+)\\((.*)\\); +// (true|false|-?\\d+)[:,.]? .*");

    private ReadmeTest() {
    }

    public static void main(String[] args) throws IOException, ReflectiveOperationException {
        String page = Files.readString(Path.of("README.md"));
        example(page);
        for (Method method : SpokeRing.class.getDeclaredMethods()) {
            if (Modifier.isPublic(method.getModifiers())) {
                Kit.due("README.md names " + method.getName(), page.contains("`" + method.getName() + "`"), true);
            }
        }
        Kit.end("ReadmeTest");
    }

    private static void example(String page) throws ReflectiveOperationException {
        int from = page.indexOf("```java\n");
        int to = page.indexOf("```", from + 3);
        Kit.due("README.md has an example", from >= 0 && to > from, true);
        SpokeRing x = new SpokeRing();
        int calls = 0;
        for (String line : page.substring(from, to).split("\n")) {
            Matcher call = CALL.matcher(line);
            if (line.startsWith("x.")) {
                Kit.due("README.md tells the answer of " + line, call.matches(), true);
            }
            if (call.matches()) {
                Kit.due("README.md: " + line + " tells what is due", answer(x, call.group(1), call.group(2)), told(call.group(3)));
                calls++;
            }
        }
        Kit.due("README.md: calls in the example", calls > 10, true);
    }

    private static long told(String word) {
        return word.equals("true") ? 1 : word.equals("false") ? 0 : Long.parseLong(word);
    }

    private static long answer(SpokeRing x, String name, String inner) throws ReflectiveOperationException {
        String[] words = inner.isEmpty() ? new String[0] : inner.split(", *");
        for (Method method : SpokeRing.class.getDeclaredMethods()) {
            if (method.getName().equals(name) && method.getParameterCount() == words.length) {
                Object[] values = new Object[words.length];
                for (int i = 0; i < words.length; i++) {
                    values[i] = Integer.parseUnsignedInt(words[i].replace("0x", ""), words[i].startsWith("0x") ? 16 : 10);
                }
                Object answer = method.invoke(x, values);
                return answer instanceof Boolean is ? (is ? 1 : 0) : ((Number) answer).longValue();
            }
        }
        return Long.MIN_VALUE;
    }
}
