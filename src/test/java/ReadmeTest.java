import java.io.File;
import java.io.IOException;
import java.lang.reflect.Method;
import java.lang.reflect.Modifier;
import java.nio.file.Files;
import java.nio.file.Path;
import java.util.regex.Matcher;
import java.util.regex.Pattern;

/** What README.md tells: its calls answer as it says, and it names every call and every test. */
public final class ReadmeTest {
    public static void main(String[] args) throws IOException {
        String page = Files.readString(Path.of("README.md"));
        itsCallsAnswerAsItSays(page);
        everyCallIsNamed(page);
        everyTestIsNamed(page);
        Check.end();
    }

    private static void itsCallsAnswerAsItSays(String page) {
        Matcher text = Pattern.compile("for \\(char c : \"([^\"]*)\"").matcher(page);
        Check.isTrue("there is a text", text.find());
        NightLoom x = new NightLoom();
        Edge.feed(x, text.group(1));
        Matcher call = Pattern.compile("(?m)^x\\.(\\w+)\\(([^)]*)\\); *// (-?\\d+): .*$").matcher(page);
        int calls = 0;
        while (call.find()) {
            calls++;
            Check.due(call.group(), Calls.answer(x, call.group(1), numbers(call.group(2))), Integer.parseInt(call.group(3)));
        }
        Check.due("calls that are told", calls, (int) page.lines().filter(line -> line.startsWith("x.")).count());
        Check.isTrue("there are some", calls > 0);
    }

    private static int[] numbers(String told) {
        if (told.isEmpty()) {
            return new int[0];
        }
        String[] parts = told.split(", ");
        int[] numbers = new int[parts.length];
        for (int i = 0; i < parts.length; i++) {
            numbers[i] = Integer.parseInt(parts[i]);
        }
        return numbers;
    }

    private static void everyCallIsNamed(String page) {
        for (Method m : NightLoom.class.getDeclaredMethods()) {
            if (Modifier.isPublic(m.getModifiers())) {
                Check.isTrue("README.md names " + m.getName(), page.contains("`" + m.getName() + "`"));
            }
        }
    }

    private static void everyTestIsNamed(String page) {
        File[] files = new File("src/test/java").listFiles();
        Check.isTrue("there are tests", files != null && files.length > 0);
        for (File file : files) {
            String name = file.getName();
            if (name.endsWith("Test.java")) {
                Check.isTrue("README.md names " + name, page.contains("`" + name.substring(0, name.length() - 5) + "`"));
            }
        }
    }
}
