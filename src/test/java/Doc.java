import java.io.IOException;
import java.nio.file.Files;
import java.nio.file.Path;
import java.util.Map;
import java.util.Set;
import java.util.TreeMap;
import java.util.TreeSet;
import java.util.regex.Matcher;
import java.util.regex.Pattern;

/** The document's words: Terms as part 0, and what each promise says behind its signature. */
final class Doc {
    private static final Path PLACE = Path.of("../shared/DOC.md");
    private static final Pattern PROMISE = Pattern.compile("(?s)## Promise (\\d+):.*?\n`[^`]*`: (.*?)(?=\n## |\\z)");

    private static final Pattern CALL = Pattern.compile("(?m)^    public (\\w+ \\w+)\\((.*)\\);$");

    private Doc() {
    }

    /** Empty, if there is no document here: then quotes cannot be looked at. */
    static Map<Integer, String> parts() {
        Map<Integer, String> parts = new TreeMap<>();
        if (!Files.isReadable(PLACE)) {
            return parts;
        }
        String all = words();
        parts.put(0, plain(all.replaceAll("(?s).*\n## Terms\n(.*?)\nAhead of the calls.*", "$1")));
        Matcher promise = PROMISE.matcher(all);
        while (promise.find()) {
            parts.put(Integer.parseInt(promise.group(1)), plain(promise.group(2)));
        }
        return parts;
    }

    /** The face as the document has it: "int row(int, int, int)" .. ; empty, if there is no document here. */
    static Set<String> face() {
        Set<String> face = new TreeSet<>();
        Matcher call = CALL.matcher(Files.isReadable(PLACE) ? words() : "");
        while (call.find()) {
            face.add(call.group(1) + "(" + call.group(2).replaceAll("(\\w+) \\w+", "$1") + ")");
        }
        return face;
    }

    private static String words() {
        try {
            return Files.readString(PLACE);
        } catch (IOException e) {
            throw new IllegalStateException(e);
        }
    }

    private static String plain(String text) {
        return text.replaceAll("```(text)?", " ").replaceAll("={8} \\d", " ").replaceAll("\\s+", " ").trim();
    }
}
