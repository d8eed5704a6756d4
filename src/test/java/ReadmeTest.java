import java.lang.reflect.Method;
import java.nio.file.Files;
import java.nio.file.Path;
import java.util.HashMap;
import java.util.HashSet;
import java.util.Map;
import java.util.Set;
import java.util.regex.Matcher;
import java.util.regex.Pattern;

/** README.md: each call that it shows answers the number behind it, and every call is named there. */
public final class ReadmeTest {
    private static final Path FILE = Path.of("README.md");
    private static final int FEWEST_CALLS = 20;
    /** int a = x.call(1, b); // 0, and so on; a comparison shows "true". */
    private static final Pattern CALL = Pattern.compile(
        "(?:(?:int|boolean) (\\w+) = )?x\\.(\\w+)\\(([^)]*)\\)( == DuesOnRungs\\.NO)?;\\s*// (-?\\d+|true)\\b.*");

    private final Checks checks = new Checks("ReadmeTest");
    private final Map<String, Method> methods = new HashMap<>();
    private final Map<String, Integer> known = new HashMap<>();
    private final DuesOnRungs x = new DuesOnRungs();

    public static void main(String[] args) throws Exception {
        new ReadmeTest().look(Files.readString(FILE));
    }

    private void look(String readme) throws Exception {
        known.put("DuesOnRungs.NONE", DuesOnRungs.NONE);
        for (Method method : DuesOnRungs.class.getMethods()) {
            if (method.getDeclaringClass() == DuesOnRungs.class) {
                methods.put(method.getName(), method);
            }
        }
        everyCallIsNamed(readme);
        int shown = 0;
        for (String line : readme.split("```java\n")[1].split("```")[0].split("\n")) {
            if (line.contains("x.")) {
                shown++;
                call(line);
            }
        }
        checks.due("few calls are shown", shown < FEWEST_CALLS ? 1 : 0, 0);
        checks.end();
    }

    private void everyCallIsNamed(String readme) {
        Set<String> named = new HashSet<>();
        Matcher name = Pattern.compile("`(\\w+)`").matcher(readme.split("The calls, in groups")[1]);
        while (name.find()) {
            named.add(name.group(1));
        }
        for (String method : methods.keySet()) {
            checks.due(method + " is not named", named.contains(method) ? 0 : 1, 0);
        }
    }

    private void call(String line) throws Exception {
        Matcher shown = CALL.matcher(line);
        if (!shown.matches() || !methods.containsKey(shown.group(2))) {
            checks.due("no call that can be read: " + line, 1, 0);
            return;
        }
        String[] words = shown.group(3).isEmpty() ? new String[0] : shown.group(3).split(", ");
        Object[] numbers = new Object[words.length];
        for (int i = 0; i < words.length; i++) {
            numbers[i] = known.containsKey(words[i]) ? known.get(words[i]) : Integer.valueOf(words[i]);
        }
        long answer = ((Number) methods.get(shown.group(2)).invoke(x, numbers)).longValue();
        boolean compared = shown.group(4) != null;
        checks.due(line, answer, compared ? DuesOnRungs.NO : Long.parseLong(shown.group(5)));
        if (shown.group(1) != null) {
            known.put(shown.group(1), (int) answer);
        }
    }
}
