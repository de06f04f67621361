import java.nio.file.Files;
import java.nio.file.Path;
import java.util.Arrays;
import java.util.regex.Matcher;
import java.util.regex.Pattern;

/** The calls that README.md shows, with the answers that it shows behind them. */
public final class ReadmeTest {
    private static final Due DUE = new Due("ReadmeTest");
    private static final Pattern CALL = Pattern.compile("^x\\.(\\w+)\\((.*)\\); +// (-?\\d+)\\b.*$");

    public static void main(String[] args) throws Exception {
        ThreeSnowballs x = new ThreeSnowballs();
        boolean isCode = false;
        int shown = 0;
        for (String line : Files.readAllLines(Path.of("README.md"))) {
            isCode = line.startsWith("```") ? line.equals("```java") : isCode;
            Matcher call = CALL.matcher(line);
            if (isCode && line.startsWith("x.")) {
                DUE.due("a call and its answer: " + line, call.matches() ? 1 : 0, 1);
                DUE.due(line, asked(x, call.group(1), call.group(2)), Long.parseLong(call.group(3)));
                shown++;
            }
        }
        DUE.due("calls shown", shown > 40 ? 1 : 0, 1);
        DUE.end();
    }

    private static long asked(ThreeSnowballs x, String name, String told) throws Exception {
        int[] values = told.isEmpty() ? new int[0] : Arrays.stream(told.split(", ")).mapToInt(ReadmeTest::value).toArray();
        switch (values.length) {
            case 0:
                return answer(x, name);
            case 1:
                return answer(x, name, values[0]);
            case 2:
                return answer(x, name, values[0], values[1]);
            default:
                return name.equals("put") ? x.put(values[0], values[1], values[2])
                    : answer(x, name, values[0], values[1], values[2]);
        }
    }

    private static long answer(ThreeSnowballs x, String name, Object... values) throws Exception {
        Class<?>[] types = new Class<?>[values.length];
        Arrays.fill(types, int.class);
        return ((Number) ThreeSnowballs.class.getMethod(name, types).invoke(x, values)).longValue();
    }

    private static int value(String told) {
        return told.startsWith("'") ? told.charAt(1) : Integer.parseInt(told);
    }
}
