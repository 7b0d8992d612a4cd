import java.lang.reflect.Method;
import java.nio.file.Files;
import java.nio.file.Path;
import java.util.regex.Matcher;
import java.util.regex.Pattern;

/** The example in README.md: its calls, in their order, answer what stands behind them. */
public final class ReadmeTest {
    private static final Pattern CALL = Pattern.compile("(?m)^x\\.(\\w+)\\(([^)]*)\\);\\s*// (-?\\d+|true|false)");
    private static final Pattern TOLD = Pattern.compile("(?s)\ntell\\(x, (.*?)\\);\\s*// (\\d+) lines");
    private static final Pattern QUOTED = Pattern.compile("\"([^\"]*)\"");

    public static void main(String[] args) throws Exception {
        String readme = Files.readString(Path.of("README.md"));
        PaneRounds x = new PaneRounds();
        Matcher told = TOLD.matcher(readme);
        Kit.due("texts in README.md", told.find() ? 1 : 0, 1);
        Matcher quoted = QUOTED.matcher(told.group(1));
        StringBuilder text = new StringBuilder();
        while (quoted.find()) {
            text.append(quoted.group(1));
        }
        Kit.due("lines of the text in README.md", Kit.tell(x, text.toString()), Integer.parseInt(told.group(2)));
        Matcher call = CALL.matcher(readme);
        int calls = 0;
        while (call.find(calls == 0 ? told.end() : call.end())) {
            Kit.due(call.group(), answer(x, call.group(1), call.group(2).split(",\\s*")), number(call.group(3)));
            calls++;
        }
        Kit.due("calls in README.md are many (" + calls + ")", calls > 20 ? 1 : 0, 1);
        Kit.end();
    }

    private static long answer(PaneRounds x, String name, String[] told) throws Exception {
        for (Method m : PaneRounds.class.getMethods()) {
            if (m.getName().equals(name) && m.getDeclaringClass() == PaneRounds.class) {
                Object[] values = new Object[m.getParameterCount()];
                for (int i = 0; i < values.length; i++) {
                    boolean isFlag = m.getParameterTypes()[i] == boolean.class;
                    values[i] = isFlag ? (Object) Boolean.valueOf(told[i]) : (Object) Integer.valueOf(told[i]);
                }
                return number(m.invoke(x, values).toString());
            }
        }
        return Long.MIN_VALUE;
    }

    private static long number(String answer) {
        return answer.equals("true") ? 1 : answer.equals("false") ? 0 : Long.parseLong(answer);
    }
}
