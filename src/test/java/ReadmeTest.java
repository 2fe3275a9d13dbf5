import java.io.IOException;
import java.lang.reflect.Method;
import java.lang.reflect.Modifier;
import java.nio.file.Files;
import java.nio.file.Path;
import java.util.List;
import java.util.regex.Matcher;
import java.util.regex.Pattern;
import java.util.stream.Stream;

/** README.md tells every call and every test, and its example answers as it says. */
public final class ReadmeTest {
    private static final Pattern LINE = Pattern.compile("x\\.(\\w+)\\(([-\\d, ]*)\\); +// (-?\\d+)\\b.*");
    private static final Pattern TEXT = Pattern.compile("\"([^\"]+)\"");

    public static void main(String[] args) throws IOException, ReflectiveOperationException {
        String page = Files.readString(Path.of("README.md"));
        tellsEveryCall(page);
        tellsEveryTest(page);
        exampleHolds(page);
        Check.end();
    }

    private static void tellsEveryCall(String page) {
        for (Method m : TellerDays.class.getDeclaredMethods()) {
            if (Modifier.isPublic(m.getModifiers())) {
                int arguments = argumentsTold(page, m.getName());
                Check.due("arguments that README.md tells of " + m.getName(), arguments, m.getParameterCount());
            }
        }
    }

    /** As the table of calls tells them; -1: it does not tell the call. */
    private static int argumentsTold(String page, String name) {
        Matcher told = Pattern.compile("(?m)^\\|.*`" + name + "\\(([^)]*)\\)`.*\\|.*\\|$").matcher(page);
        if (!told.find()) {
            return -1;
        }
        return told.group(1).isEmpty() ? 0 : told.group(1).split(", ").length;
    }

    private static void tellsEveryTest(String page) throws IOException {
        try (Stream<Path> files = Files.list(Path.of("src/test/java"))) {
            List<String> tests = files.map(f -> f.getFileName().toString()).filter(f -> f.endsWith("Test.java")).toList();
            for (String test : tests) {
                String name = test.replace(".java", "");
                Check.that("README.md tells " + name, Pattern.compile("(?m)^\\|.*\\b" + name + "\\b.*\\|$").matcher(page).find());
            }
            Matcher told = Pattern.compile("\\b[A-Z]\\w+Test\\b").matcher(page);
            while (told.find()) {
                Check.that(told.group() + " is there", tests.contains(told.group() + ".java"));
            }
        }
    }

    private static void exampleHolds(String page) throws ReflectiveOperationException {
        String example = page.replaceAll("(?s).*```java\n(.*?)```.*", "$1");
        Matcher text = TEXT.matcher(example);
        Check.that("the example has a text", text.find());
        TellerDays x = new TellerDays();
        for (char letter : text.group(1).toCharArray()) {
            x.feed(letter);
        }
        int lines = 0;
        for (String line : example.split("\n")) {
            if (line.startsWith("x.")) {
                answersAsTold(x, line);
                lines++;
            }
        }
        Check.that("the example has calls", lines > 0);
    }

    private static void answersAsTold(TellerDays x, String line) throws ReflectiveOperationException {
        Matcher call = LINE.matcher(line);
        Check.that("can be read: " + line, call.matches());
        if (!call.matches()) {
            return;
        }
        String[] words = call.group(2).isEmpty() ? new String[0] : call.group(2).split(", *");
        Class<?>[] types = new Class<?>[words.length];
        Object[] numbers = new Object[words.length];
        for (int k = 0; k < words.length; k++) {
            types[k] = int.class;
            numbers[k] = Integer.valueOf(words[k]);
        }
        Number got = (Number) TellerDays.class.getMethod(call.group(1), types).invoke(x, numbers);
        Check.due(line, got.longValue(), Long.parseLong(call.group(3)));
    }
}
