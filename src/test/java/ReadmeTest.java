import java.io.IOException;
import java.lang.reflect.Method;
import java.nio.file.Files;
import java.nio.file.Path;
import java.util.HashSet;
import java.util.List;
import java.util.Map;
import java.util.Set;
import java.util.regex.Matcher;
import java.util.regex.Pattern;

/** What README.md shows of calls and answers is so. It is read where the test is started. */
public final class ReadmeTest {
    private static final Pattern CALL = Pattern.compile("x\\.(\\w+)\\((.*)\\); *// (-?\\d+|[A-Z]+)(?:: .*)?");
    private static final Map<String, Integer> NAMED =
        Map.of("NONE", LitmusRunner.NONE, "BAD", LitmusRunner.BAD, "FULL", LitmusRunner.FULL);
    private static final Set<String> SHOWN = new HashSet<>();

    public static void main(String[] args) throws IOException {
        List<String> lines = Files.readAllLines(Path.of("README.md"));
        int begin = lines.indexOf("```java");
        for (int block = 1; begin >= 0; block++) {
            List<String> rest = lines.subList(begin + 1, lines.size());
            List<String> calls = rest.subList(0, rest.indexOf("```"));
            Cases.test("README.md: block " + block, x -> doCalls(x, calls));
            lines = rest.subList(calls.size() + 1, rest.size());
            begin = lines.indexOf("```java");
        }
        Cases.test("README.md: each method is shown", x -> eachIsShown());
        Cases.finish("ReadmeTest");
    }

    private static void doCalls(LitmusRunner x, List<String> calls) {
        Cases.due("a new object at first: " + calls.get(0),
            calls.get(0).equals("LitmusRunner x = new LitmusRunner();") ? 1 : 0, 1);
        for (String line : calls.subList(1, calls.size())) {
            Matcher call = CALL.matcher(line);
            if (call.matches()) {
                String answer = call.group(3);
                long due = NAMED.containsKey(answer) ? NAMED.get(answer) : Long.parseLong(answer);
                Cases.due(line, answerOf(x, call.group(1), call.group(2)), due);
                SHOWN.add(call.group(1));
            } else {
                Cases.due("a call and its answer: " + line, 0, 1);
            }
        }
    }

    private static long answerOf(LitmusRunner x, String name, String numbers) {
        String[] texts = numbers.isEmpty() ? new String[0] : numbers.split(", ");
        try {
            Method method = methodCalled(name);
            Class<?>[] types = method.getParameterTypes();
            Object[] values = new Object[texts.length];
            for (int i = 0; i < texts.length; i++) {
                boolean isLong = i < types.length && types[i] == long.class;
                values[i] = isLong ? (Object) Long.valueOf(texts[i].replace("L", "")) : Integer.valueOf(texts[i]);
            }
            return ((Number) method.invoke(x, values)).longValue();
        } catch (ReflectiveOperationException e) {
            throw new IllegalStateException(e);
        }
    }

    private static Method methodCalled(String name) {
        for (Method method : LitmusRunner.class.getDeclaredMethods()) {
            if (method.getName().equals(name)) {
                return method;
            }
        }
        throw new IllegalStateException("no method " + name);
    }

    private static void eachIsShown() {
        for (String name : List.of("clear", "model", "add", "find", "outcome", "with", "both", "is", "instruction", "count")) {
            Cases.due(name + " is shown", SHOWN.contains(name) ? 1 : 0, 1);
        }
    }
}
