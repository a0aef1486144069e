import java.lang.reflect.Method;
import java.lang.reflect.Modifier;
import java.nio.file.Files;
import java.nio.file.Path;
import java.util.HashMap;
import java.util.HashSet;
import java.util.Map;
import java.util.Set;
import java.util.regex.Matcher;
import java.util.regex.Pattern;

/** README.md: what it shows as an example is what the class answers, and it names every call as it is called. */
public final class ReadmeTest {
    private static final Path README = Path.of("README.md");
    private static final String MADE = "HatDownTheStreet x = new HatDownTheStreet();";
    private static final Pattern SHOWN = Pattern.compile("x\\.(\\w+)\\((.*)\\); +// (-?\\d+)(: .+)?");
    private static final Pattern NAMED = Pattern.compile("`(\\w+)\\(([\\w, ]*)\\)`");

    private static final Map<String, Method> CALLS = new HashMap<>();

    public static void main(String[] args) throws Exception {
        for (Method m : HatDownTheStreet.class.getDeclaredMethods()) {
            if (Modifier.isPublic(m.getModifiers())) {
                CALLS.put(m.getName(), m);
            }
        }
        String readme = Files.readString(README);
        Due.of("README.md", "what it shows as an example is what the class answers");
        examples(readme);
        Due.of("README.md", "how to call its methods");
        names(readme);
        Due.of("README.md", "with which command the tests are run");
        Due.holds("the command is named", readme.contains("\n    bash .ci/run\n"));
        Due.holds("and stands", Files.isExecutable(Path.of(".ci/run")));
        Due.end();
    }

    private static void examples(String readme) throws Exception {
        Matcher block = Pattern.compile("(?s)```java\n(.*?)```").matcher(readme);
        int blocks = 0;
        while (block.find()) {
            blocks++;
            HatDownTheStreet x = null;
            for (String line : block.group(1).split("\n")) {
                if (line.equals(MADE)) {
                    x = new HatDownTheStreet();
                } else {
                    shown(x, line);
                }
            }
        }
        Due.holds("examples are shown", blocks > 0);
    }

    private static void shown(HatDownTheStreet x, String line) throws Exception {
        Matcher m = SHOWN.matcher(line);
        boolean isCall = x != null && m.matches() && CALLS.containsKey(m.group(1));
        Due.holds("a call and its answer: " + line, isCall);
        if (isCall) {
            String[] numbers = m.group(2).isEmpty() ? new String[0] : m.group(2).split(", ", -1);
            Object[] args = new Object[numbers.length];
            for (int i = 0; i < args.length; i++) {
                args[i] = number(numbers[i]);
            }
            long got = ((Number) CALLS.get(m.group(1)).invoke(x, args)).longValue();
            Due.is(line, got, Long.parseLong(m.group(3)));
        }
    }

    private static int number(String told) {
        return told.matches("'.'") ? told.charAt(1) : Integer.parseInt(told);
    }

    private static void names(String readme) {
        Set<String> named = new HashSet<>();
        Matcher m = NAMED.matcher(readme);
        while (m.find()) {
            Method call = CALLS.get(m.group(1));
            Due.holds(m.group() + " is a call", call != null);
            int numbers = m.group(2).isEmpty() ? 0 : m.group(2).split(", ").length;
            Due.is(m.group() + " takes so many", numbers, call == null ? -1 : call.getParameterCount());
            named.add(m.group(1));
        }
        Due.holds("every call is named: " + named, named.equals(CALLS.keySet()));
    }
}
