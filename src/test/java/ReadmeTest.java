import java.io.IOException;
import java.lang.reflect.Method;
import java.nio.file.Files;
import java.nio.file.Path;
import java.util.Arrays;
import java.util.regex.Matcher;
import java.util.regex.Pattern;

/** README.md's example: every call answers what stands behind it, and the page names what there is. */
public final class ReadmeTest {
    private static final Pattern TEXT = Pattern.compile("String text = \"([^\"]*)\";");
    private static final Pattern CALL = Pattern.compile("^stop\\.(\\w+)\\(([-0-9, ]*)\\); +// (-?\\d+)\\b", Pattern.MULTILINE);
    private static final Pattern UNANSWERED = Pattern.compile("^stop\\..*", Pattern.MULTILINE);

    private final Calls calls = new Calls();
    private final String page;

    private ReadmeTest(String page) {
        this.page = page;
    }

    public static void main(String[] args) throws IOException, ReflectiveOperationException {
        ReadmeTest test = new ReadmeTest(Files.readString(Path.of("README.md")));
        test.callsAnswerAsTold();
        test.allCallsAreNamed();
        test.allTestsAreNamed();
        test.calls.end("ReadmeTest");
    }

    private void callsAnswerAsTold() throws ReflectiveOperationException {
        NeededStop stop = new NeededStop();
        Matcher text = TEXT.matcher(page);
        calls.due("the example has a text", text.find() ? 1 : 0, 1);
        Calls.writeText(stop, text.group(1));
        Matcher call = CALL.matcher(page);
        int answered = 0;
        for (; call.find(); answered++) {
            Object[] numbers = call.group(2).isEmpty() ? new Object[0] : Arrays.stream(call.group(2).split(", *")).map(Integer::valueOf).toArray();
            calls.due(call.group(), answer(stop, call.group(1), numbers), Integer.parseInt(call.group(3)));
        }
        calls.due("every call of the example has its answer behind it", answered, (int) UNANSWERED.matcher(page).results().count());
    }

    private static int answer(NeededStop stop, String name, Object... numbers) throws ReflectiveOperationException {
        Class<?>[] types = new Class<?>[numbers.length];
        Arrays.fill(types, int.class);
        return (int) NeededStop.class.getMethod(name, types).invoke(stop, numbers);
    }

    private void allCallsAreNamed() {
        for (Method method : NeededStop.class.getDeclaredMethods()) {
            if (java.lang.reflect.Modifier.isPublic(method.getModifiers())) {
                calls.due("README.md names " + method.getName(), page.contains("`" + method.getName() + "`") ? 1 : 0, 1);
            }
        }
    }

    private void allTestsAreNamed() throws IOException {
        try (var files = Files.list(Path.of("src/test/java"))) {
            for (String name : files.map(file -> file.getFileName().toString().replace(".java", "")).filter(name -> name.endsWith("Test")).toList()) {
                calls.due("README.md names " + name, page.contains("`" + name + "`") ? 1 : 0, 1);
            }
        }
    }
}
