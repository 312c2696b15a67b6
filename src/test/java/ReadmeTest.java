import java.io.IOException;
import java.lang.reflect.InvocationTargetException;
import java.lang.reflect.Method;
import java.nio.file.Files;
import java.nio.file.Path;
import java.util.regex.Matcher;
import java.util.regex.Pattern;

/** The calls in README.md answer what stands behind them. */
public final class ReadmeTest {
    private static final Pattern CALL = Pattern.compile("c\\.(\\w+)\\(([^)]*)\\);\\s+// (true|false|-?\\d+)(?:: .*)?");

    private ReadmeTest() {
    }

    public static void main(String[] args) throws IOException, IllegalAccessException, InvocationTargetException {
        WindCabinet cabinet = null;
        boolean code = false;
        int calls = 0;
        for (String line : Files.readAllLines(Path.of("README.md"))) {
            if (line.startsWith("```")) {
                code = line.equals("```java");
            } else if (line.equals("WindCabinet c = new WindCabinet();")) {
                cabinet = new WindCabinet();
            } else if (code) {
                Matcher call = CALL.matcher(line);
                boolean is = call.matches();
                Check.due("a call with its answer: " + line, is, true);
                if (is) {
                    Check.due(line, answer(cabinet, call.group(1), call.group(2).split(", ")), number(call.group(3)));
                    calls++;
                }
            }
        }
        Check.due("some calls", calls > 20, true);
        Check.finish();
    }

    private static int answer(WindCabinet cabinet, String name, String[] words)
            throws IllegalAccessException, InvocationTargetException {
        Object[] arguments = new Object[words.length];
        for (int i = 0; i < words.length; i++) {
            arguments[i] = number(words[i]);
        }
        for (Method method : WindCabinet.class.getMethods()) {
            if (method.getName().equals(name)) {
                Object answer = method.invoke(cabinet, arguments);
                return answer instanceof Boolean yes ? (yes ? 1 : 0) : (Integer) answer;
            }
        }
        throw new IllegalArgumentException("no such call: " + name);
    }

    private static int number(String word) {
        return switch (word) {
            case "true" -> 1;
            case "false" -> 0;
            case "WindCabinet.NONE" -> WindCabinet.NONE;
            default -> Integer.decode(word);
        };
    }
}
