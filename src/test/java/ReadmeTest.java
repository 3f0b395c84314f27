import java.lang.reflect.Method;
import java.lang.reflect.Modifier;
import java.nio.file.Files;
import java.nio.file.Path;
import java.util.List;
import java.util.regex.Matcher;
import java.util.regex.Pattern;

/** README.md against the class: its calls answer as it says, and it names every call and every refusal. */
public final class ReadmeTest {
    private static final Pattern TEXT = Pattern.compile("\"([^\"]+)\"\\.toCharArray");
    private static final Pattern CALL = Pattern.compile("x\\.(\\w+)\\(([-0-9, ]*)\\);\\s+// (-?\\d+)\\b.*");
    private static final int CALLS_AT_LEAST = 20;
    private static final Check CHECK = new Check();

    public static void main(String[] args) throws Exception {
        List<String> lines = Files.readAllLines(Path.of("README.md"));
        theCallsAnswerAsTold(lines);
        everyCallIsNamed(String.join("\n", lines));
        everyRefusalIsNamed(String.join("\n", lines));
        CHECK.end();
    }

    private static void theCallsAnswerAsTold(List<String> lines) throws Exception {
        LetterChute x = new LetterChute();
        int made = 0;
        for (String line : lines) {
            Matcher text = TEXT.matcher(line);
            if (text.find()) {
                Check.feed(x, text.group(1));
            }
            Matcher call = CALL.matcher(line);
            if (call.matches()) {
                made++;
                CHECK.due("README: " + line, answer(x, call.group(1), call.group(2)), Long.parseLong(call.group(3)));
            }
        }
        CHECK.due("README shows calls with their answers", made >= CALLS_AT_LEAST ? 1 : 0, 1);
    }

    private static long answer(LetterChute x, String name, String numbers) throws Exception {
        String[] told = numbers.isEmpty() ? new String[0] : numbers.split(", ");
        Object[] arguments = new Object[told.length];
        Class<?>[] types = new Class<?>[told.length];
        for (int i = 0; i < told.length; i++) {
            arguments[i] = Integer.parseInt(told[i]);
            types[i] = int.class;
        }
        return ((Number) LetterChute.class.getMethod(name, types).invoke(x, arguments)).longValue();
    }

    private static void everyCallIsNamed(String page) {
        for (Method m : LetterChute.class.getDeclaredMethods()) {
            if (Modifier.isPublic(m.getModifiers())) {
                boolean named = Pattern.compile("\\| `.*\\b" + m.getName() + "\\([^)]*\\)`.* \\|").matcher(page).find();
                CHECK.due("README tells what " + m.getName() + " answers", named ? 1 : 0, 1);
            }
        }
    }

    private static void everyRefusalIsNamed(String page) {
        int[] refusals = {LetterChute.NONE, LetterChute.BAD, LetterChute.STATE, LetterChute.FULL,
            -1000011, -1000012, -1000013, -1000014, -1000015};
        for (int refusal : refusals) {
            CHECK.due("README names " + refusal, page.contains("" + refusal) ? 1 : 0, 1);
        }
    }
}
