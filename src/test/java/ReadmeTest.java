import java.io.IOException;
import java.nio.file.Files;
import java.nio.file.Path;
import java.util.Set;
import java.util.TreeSet;
import java.util.regex.Matcher;
import java.util.regex.Pattern;

/** README.md: its example answers as it says, and its table has each call of the document with all its refusals. */
public final class ReadmeTest {
    private static final Due due = new Due("ReadmeTest");
    private static final Pattern TOLD_TEXT = Pattern.compile("String text = \"(\\w*)\";");
    private static final Pattern ROW = Pattern.compile("(?m)^x\\.(\\w+)\\(([^)]*)\\);\\s+// (-?\\d+): \\S");
    private static final Pattern PROMISE = Pattern.compile("## Promise \\d+: (\\w+)\\s+`\\w+ \\w+\\(([^)]*)\\)`:([^#]*)");
    private static final Pattern REFUSAL = Pattern.compile("\\b(UNKNOWN|BAD|LATE|FULL)\\b");

    public static void main(String[] args) throws IOException {
        String readme = Files.readString(Path.of("README.md"));
        theExample(readme.replaceAll("(?s).*```java\n(.*)```.*", "$1"));
        theTable(readme, Files.readString(Path.of("../shared/DOC.md")));
        theTests(readme);
        due.end();
    }

    private static void theExample(String example) {
        Matcher text = TOLD_TEXT.matcher(example);
        due.same("the example tells a text", text.find(), true);
        LeggedThrough x = Due.told(text.group(1));
        Matcher row = ROW.matcher(example);
        int rows = 0;
        while (row.find()) {
            String[] words = row.group(2).isEmpty() ? new String[0] : row.group(2).split(", ");
            String call = "x." + row.group(1) + "(" + row.group(2) + ")";
            due.same(call, Both.answer(x, row.group(1), told(row.group(1), words)), Long.parseLong(row.group(3)));
            rows++;
        }
        due.same("each row that begins with a call is made", rows, example.split("\nx\\.").length - 1);
    }

    private static Object[] told(String call, String[] words) {
        Class<?>[] types = Both.method(call).getParameterTypes();
        Object[] told = new Object[words.length];
        for (int i = 0; i < words.length; i++) {
            if (types[i] == boolean.class) {
                told[i] = Boolean.valueOf(words[i]);
            } else {
                told[i] = types[i] == long.class ? (Object) Long.valueOf(words[i]) : (Object) Integer.valueOf(words[i]);
            }
        }
        return told;
    }

    private static void theTable(String readme, String document) {
        Matcher promise = PROMISE.matcher(document.replaceAll("\\s+", " "));
        int promises = 0;
        while (promise.find()) {
            String call = promise.group(1) + "(" + promise.group(2).replaceAll("\\w+ (\\w+)", "$1") + ")";
            Matcher row = Pattern.compile("(?m)^\\|[^|]*\\| `" + Pattern.quote(call) + "` \\|[^|]*\\|([^|]*)\\|$").matcher(readme);
            boolean found = row.find();
            due.same("a row of the table for " + call, found, true);
            if (found) {
                due.same("what " + call + " refuses", refusals(row.group(1)), refusals(promise.group(3)));
            }
            promises++;
        }
        due.same("promises of a call", promises, 28);
    }

    private static Set<String> refusals(String words) {
        Set<String> found = new TreeSet<>();
        Matcher refusal = REFUSAL.matcher(words);
        while (refusal.find()) {
            found.add(refusal.group());
        }
        return found;
    }

    private static void theTests(String readme) throws IOException {
        try (var files = Files.newDirectoryStream(Path.of("src/test/java"), "*Test.java")) {
            for (Path file : files) {
                String name = file.getFileName().toString().replace(".java", "");
                due.same("README tells of " + name, readme.contains("| `" + name + "` |"), true);
            }
        }
    }
}
