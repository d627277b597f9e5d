import java.lang.reflect.Method;
import java.nio.file.Files;
import java.nio.file.Path;
import java.util.List;
import java.util.regex.Matcher;
import java.util.regex.Pattern;

/** What README.md says of the class: its calls, on one object, one after the other, with the answers behind them. */
public final class ReadmeTest {
    private static final Checks checks = new Checks();
    private static final Pattern CALL = Pattern.compile("stars\\.(\\w+)\\((.*)\\); // (\\S+) .*");

    public static void main(String[] args) throws Exception {
        List<String> lines = Files.readAllLines(Path.of("README.md"));
        GuestStars stars = new GuestStars();
        StringBuilder text = new StringBuilder();
        boolean inText = false;
        int calls = 0;
        for (String line : lines) {
            Matcher call = CALL.matcher(line);
            if (inText && line.equals("```")) {
                checks.due("the text of README.md", Checks.tell(stars, text.toString()) > 0, true);
                inText = false;
            } else if (line.equals("```text")) {
                inText = true;
            } else if (inText) {
                text.append(line).append('\n');
            } else if (call.matches()) {
                checks.due(line, answer(stars, call.group(1), call.group(2)).equals(call.group(3)), true);
                calls++;
            } else {
                checks.due("a call without an answer: " + line, line.startsWith("stars."), false);
            }
        }
        checks.due("calls in README.md", calls >= 30, true);
        checks.finish("ReadmeTest");
    }

    private static String answer(GuestStars stars, String name, String numbers) throws Exception {
        String[] parts = numbers.isEmpty() ? new String[0] : numbers.split(", ");
        for (Method method : GuestStars.class.getMethods()) {
            if (method.getName().equals(name) && method.getParameterCount() == parts.length) {
                Object[] values = new Object[parts.length];
                for (int k = 0; k < parts.length; k++) {
                    boolean yes = method.getParameterTypes()[k] == boolean.class;
                    values[k] = yes ? (Object) Boolean.valueOf(parts[k]) : (Object) Integer.decode(parts[k]);
                }
                return String.valueOf(method.invoke(stars, values));
            }
        }
        return "no such call";
    }
}
