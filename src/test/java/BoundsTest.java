import java.io.IOException;
import java.nio.file.Files;
import java.nio.file.Path;
import java.util.ArrayList;
import java.util.List;
import java.util.Set;
import java.util.TreeSet;
import java.util.regex.Matcher;
import java.util.regex.Pattern;

/** Promises 1 to 29, by src/test/bounds.txt: for each sentence that names a bound, calls that tell whether it holds. */
public final class BoundsTest {
    private static final Due due = new Due("BoundsTest");
    private static final Path BOUNDS = Path.of("src/test/bounds.txt"), DOCUMENT = Path.of("../shared/DOC.md");
    private static final List<String> REFUSALS = List.of("UNKNOWN", "BAD", "LATE", "FULL");
    private static final Pattern MANY_TIMES = Pattern.compile("(\\d+) x (?:\\{([^}]*)\\}|([^;{]*))");
    private static final Pattern PROMISE = Pattern.compile("## Promise \\d+: (\\w+)\\s+`[^`]*`:([^#]*)");

    private record Call(String name, Object[] told) {
    }

    private final String document;
    /** The calls made on the object that the rows are about, so that one like it can be made. */
    private final List<Call> made = new ArrayList<>();
    private final Set<String> answersSeen = new TreeSet<>();
    private LeggedThrough x = new LeggedThrough();
    private String sentence = "";
    private int sentences;

    private BoundsTest(String document) {
        this.document = document.replaceAll("\\s+", " ");
    }

    public static void main(String[] args) throws IOException {
        BoundsTest test = new BoundsTest(Files.readString(DOCUMENT));
        for (String line : Files.readAllLines(BOUNDS)) {
            if (line.startsWith("> ")) {
                test.sentence(line.substring(2));
            } else if (!line.isBlank() && !line.startsWith("#")) {
                test.rows(line);
            }
        }
        due.same("there are sentences", test.sentences >= 70, true);
        test.eachRefusalIsSeen();
        due.end();
    }

    private void sentence(String words) {
        sentence = words;
        sentences++;
        due.same("words of the document: " + words, document.contains(words), true);
        anew();
    }

    private void anew() {
        made.clear();
        x = new LeggedThrough();
    }

    private void rows(String line) {
        String plain = MANY_TIMES.matcher(line).replaceAll(many -> Matcher.quoteReplacement(
            String.join("; ", java.util.Collections.nCopies(
                Integer.parseInt(many.group(1)), many.group(2) != null ? many.group(2) : many.group(3)))));
        for (String row : plain.split(";")) {
            row(row.trim());
        }
    }

    private void row(String row) {
        String[] sides = row.split(" = ", 2);
        String[] words = sides[0].split(" ");
        if (words[0].equals("new")) {
            anew();
        } else if (words[0].equals("tell")) {
            tell(words[1]);
        } else if (words[0].equals("made")) {
            tell(words[1]);
            due.same(sentence + ": a tunnel of " + words[1], make(new Call("tunnel", new Object[0])) >= 0, true);
        } else if (sides.length == 1) {
            long answer = make(new Call(words[0], told(words)));
            due.same(sentence + ": " + row + " is no refusal, since none is told", REFUSALS.contains(nameOf(answer)) && !words[0].equals("seed"), false);
        } else {
            asked(row, new Call(words[0], told(words)), sides[1]);
        }
    }

    private void tell(String text) {
        make(new Call("wipe", new Object[0]));
        for (int i = 0; i < text.length(); i++) {
            make(new Call("write", new Object[] {(int) text.charAt(i)}));
        }
    }

    private long make(Call call) {
        made.add(call);
        due.same(sentence + ": calls on one object", made.size() <= Both.MOST_CALLS, true);
        return Both.answer(x, call.name(), call.told());
    }

    /** What is refused changes nothing, so the object goes on as if it had not been asked. */
    private void asked(String row, Call call, String answer) {
        if (!REFUSALS.contains(answer)) {
            due.same(sentence + ": " + row, make(call), number(answer));
        } else {
            List<Call> before = List.copyOf(made);
            Due.Call asked = object -> Both.answer(object, call.name(), call.told());
            due.still(sentence + ": " + row, () -> again(before), asked, number(answer));
            due.same(sentence + ": " + row, make(call), number(answer));
        }
        if (Pattern.matches("[A-Z]+", answer)) {
            answersSeen.add(call.name() + " " + answer);
        }
    }

    private static LeggedThrough again(List<Call> calls) {
        LeggedThrough x = new LeggedThrough();
        for (Call call : calls) {
            Both.answer(x, call.name(), call.told());
        }
        return x;
    }

    private static Object[] told(String[] words) {
        Class<?>[] types = Both.method(words[0]).getParameterTypes();
        Object[] told = new Object[types.length];
        for (int i = 0; i < told.length; i++) {
            String word = words[i + 1];
            if (types[i] == boolean.class) {
                told[i] = Boolean.valueOf(word);
            } else if (types[i] == int.class) {
                told[i] = (int) number(word);
            } else {
                told[i] = number(word);
            }
        }
        if (told.length != words.length - 1) {
            throw new IllegalStateException("told too much: " + String.join(" ", words));
        }
        return told;
    }

    private static long number(String told) {
        long sum = 0;
        for (String part : told.split(" \\+ ")) {
            sum += onePart(part);
        }
        return sum;
    }

    private static long onePart(String part) {
        switch (part) {
            case "UNKNOWN": return LeggedThrough.UNKNOWN;
            case "BAD": return LeggedThrough.BAD;
            case "LATE": return LeggedThrough.LATE;
            case "FULL": return LeggedThrough.FULL;
            case "NONE": return LeggedThrough.NONE;
            case "least": return Integer.MIN_VALUE;
            case "most": return Integer.MAX_VALUE;
            case "longest-": return Long.MIN_VALUE;
            case "longest": return Long.MAX_VALUE;
            default: return part.matches("'.'") ? part.charAt(1) : Long.parseLong(part);
        }
    }

    private static String nameOf(long answer) {
        for (String name : REFUSALS) {
            if (onePart(name) == answer) {
                return name;
            }
        }
        return "";
    }

    /** Whatever refusal a promise names, some row asks for it. */
    private void eachRefusalIsSeen() {
        Matcher promise = PROMISE.matcher(document);
        int promises = 0;
        while (promise.find()) {
            promises++;
            Matcher named = Pattern.compile("\\b(UNKNOWN|BAD|LATE|FULL)\\b").matcher(promise.group(2));
            while (named.find()) {
                String refusal = promise.group(1) + " " + named.group();
                due.same("a row for " + refusal, answersSeen.contains(refusal), true);
            }
        }
        due.same("promises of a call", promises, 28);
        for (String none : List.of("fault", "best", "soonest", "judge")) {
            due.same("a row for no answer of " + none, answersSeen.contains(none + " NONE"), true);
        }
    }
}
