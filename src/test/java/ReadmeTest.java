import java.io.IOException;
import java.lang.reflect.Method;
import java.lang.reflect.Modifier;
import java.nio.file.Files;
import java.nio.file.Path;
import java.util.Set;
import java.util.TreeMap;
import java.util.TreeSet;
import java.util.Map;
import java.util.regex.Matcher;
import java.util.regex.Pattern;

/** README.md's examples answer as it says, and they use every call of the face. */
public final class ReadmeTest {
    private static final Pattern CALL = Pattern.compile("x\\.(\\w+)\\((.*)\\); *// *(-?\\d+)?\\b.*");

    private final Map<String, Method> calls = new TreeMap<>();
    private final Set<String> named = new TreeSet<>();
    private SentRound x;
    private int asked = 0;
    private int wrong = 0;

    private ReadmeTest() {
        for (Method m : SentRound.class.getDeclaredMethods()) {
            if (Modifier.isPublic(m.getModifiers())) calls.put(m.getName(), m);
        }
    }

    private void tell(String what) {
        wrong++;
        System.out.println(what);
    }

    private static Object[] arguments(String text) {
        if (text.isBlank()) return new Object[0];
        String[] each = text.split(", ");
        Object[] all = new Object[each.length];
        for (int i = 0; i < all.length; i++) {
            all[i] = each[i].charAt(0) == '\'' ? (int) each[i].charAt(1) : Integer.parseInt(each[i]);
        }
        return all;
    }

    private void ask(String line) throws ReflectiveOperationException {
        if (line.equals("SentRound x = new SentRound();")) {
            x = new SentRound();
            return;
        }
        Matcher call = CALL.matcher(line);
        if (!call.matches() || !calls.containsKey(call.group(1))) {
            tell("no call, or no answer: " + line);
            return;
        }
        named.add(call.group(1));
        long got = ((Number) calls.get(call.group(1)).invoke(x, arguments(call.group(2)))).longValue();
        if (call.group(3) == null) return;
        asked++;
        if (got != Long.parseLong(call.group(3))) tell(line + " answered " + got);
    }

    private void askAll() throws IOException, ReflectiveOperationException {
        boolean inside = false;
        for (String line : Files.readAllLines(Path.of("README.md"))) {
            if (line.startsWith("```")) inside = line.equals("```java");
            else if (inside && !line.isBlank()) ask(line);
        }
        for (String name : calls.keySet()) {
            if (!named.contains(name)) tell("README.md does not show " + name);
        }
    }

    public static void main(String[] args) throws IOException, ReflectiveOperationException {
        ReadmeTest test = new ReadmeTest();
        test.askAll();
        System.out.println(test.asked + " answers of README.md asked, " + test.wrong + " wrong");
        if (test.wrong > 0 || test.asked == 0) System.exit(1);
    }
}
