import java.io.IOException;
import java.lang.reflect.Constructor;
import java.lang.reflect.Field;
import java.lang.reflect.Method;
import java.lang.reflect.Modifier;
import java.nio.file.Files;
import java.nio.file.Path;
import java.util.Set;
import java.util.TreeSet;
import java.util.regex.Matcher;
import java.util.regex.Pattern;

/** The public face of the document, and those rules of ../shared/LANGUAGE.md that a look at the source can tell. */
public final class FaceTest {
    private static final Due due = new Due("FaceTest");

    private static final String FACE = "int write(int);int wipe();int fault();int tunnel();int about(int);"
            + "int legger(int,int);int load(int);int leg(int,int,int);int rest(int);int wet(int,int);int dry(int,int);"
            + "int undo();int alone(int,int);int time(int,int,int,int,int);int best(int,int);int begin(int,int,int,int);"
            + "int soonest(boolean);int judge(int,int);int share(int,int,boolean);int see(int,int);int unsee();"
            + "int lives(int);int rests(int,int,int);int chance(int,int,int,boolean);long seed(long);int days(int);"
            + "int keep(int);int again(int)";

    public static void main(String[] args) throws IOException {
        theFace();
        theConstants();
        theClassesInside();
        theSource(Files.readString(Path.of("src/main/java/LeggedThrough.java")));
        due.end();
    }

    private static void theFace() {
        Set<String> found = new TreeSet<>();
        Set<String> names = new TreeSet<>();
        Class<?> face = LeggedThrough.class;
        for (Method method : face.getDeclaredMethods()) {
            if (Modifier.isPublic(method.getModifiers())) {
                found.add(told(method));
                names.add(method.getName());
            }
        }
        due.same("the public methods", found, new TreeSet<>(Set.of(FACE.split(";"))));
        for (Method method : face.getDeclaredMethods()) {
            if (!Modifier.isPublic(method.getModifiers())) {
                due.same(method + " is private", Modifier.isPrivate(method.getModifiers()), true);
                due.same(method + " has a name of its own", names.contains(method.getName()), false);
            }
        }
        for (Class<?> inside : face.getDeclaredClasses()) {
            for (Method method : inside.getDeclaredMethods()) {
                due.same(method + " has a name of its own", names.contains(method.getName()), false);
            }
        }
        due.same("the class is public and final", Modifier.toString(face.getModifiers()), "public final");
        Constructor<?>[] made = face.getDeclaredConstructors();
        due.same("one constructor", made.length, 1);
        due.same("it is public", Modifier.toString(made[0].getModifiers()), "public");
        due.same("it is told nothing", made[0].getParameterCount(), 0);
    }

    private static String told(Method method) {
        StringBuilder told = new StringBuilder(method.getReturnType().getName()).append(' ').append(method.getName());
        char ahead = '(';
        for (Class<?> type : method.getParameterTypes()) {
            told.append(ahead).append(type.getName());
            ahead = ',';
        }
        return told.append(ahead == '(' ? "()" : ")").toString();
    }

    private static void theConstants() {
        due.same("UNKNOWN", LeggedThrough.UNKNOWN, -1);
        due.same("BAD", LeggedThrough.BAD, -2);
        due.same("LATE", LeggedThrough.LATE, -3);
        due.same("FULL", LeggedThrough.FULL, -4);
        due.same("NONE", LeggedThrough.NONE, -9);
        Set<String> found = new TreeSet<>();
        int own = 0;
        for (Field field : LeggedThrough.class.getDeclaredFields()) {
            int is = field.getModifiers();
            if (Modifier.isPublic(is)) {
                found.add(field.getName());
                due.same(field + "", Modifier.toString(is) + " " + field.getType(), "public static final int");
            } else {
                due.same(field + " is private", Modifier.isPrivate(is), true);
                due.same(field + " is final, if it is static", !Modifier.isStatic(is) || Modifier.isFinal(is), true);
                own += Modifier.isStatic(is) ? 0 : 1;
            }
        }
        due.same("the constants", found, new TreeSet<>(Set.of("UNKNOWN", "BAD", "LATE", "FULL", "NONE")));
        due.same("twenty fields at most", own <= 20, true);
    }

    private static void theClassesInside() {
        Class<?>[] inside = LeggedThrough.class.getDeclaredClasses();
        due.same("twelve classes at most", inside.length < 12, true);
        for (Class<?> one : inside) {
            due.same(one + " is static", Modifier.isStatic(one.getModifiers()), true);
            due.same(one + " is not seen outside", one.getModifiers() & (Modifier.PUBLIC | Modifier.PROTECTED), 0);
        }
    }

    private static void theSource(String source) {
        String code = source.replaceAll("(?s)/\\*.*?\\*/", " ").replaceAll("//[^\n]*", " ");
        String words = "throw|try|catch|synchronized|assert|import|package|instanceof|float|double|native|volatile|"
                + "transient|System|Object|Thread|var|yield|protected|hashCode|toString|Exact|MAX_VALUE|MIN_VALUE";
        due.same("words that are ruled out", first("\\b(" + words + ")\\b|->|::", code), "none");
        due.same("a line too long", first("[^\n]{121,}", source), "none");
        due.same("a sign beyond ASCII", first("[^\\x00-\\x7f]", source), "none");
        // one ROOM holds what all calls make: only constructors make anything here
        for (String line : code.split("\n")) {
            if (Pattern.compile("\\bnew\\b").matcher(line).find()) {
                due.same("made with the object itself: " + line.trim(), line.matches(" +private final .* = new .*"), true);
            }
        }
        theMethodsAreShort(code);
    }

    private static String first(String pattern, String code) {
        Matcher matcher = Pattern.compile(pattern).matcher(code);
        return matcher.find() ? matcher.group() : "none";
    }

    private static void theMethodsAreShort(String code) {
        Matcher matcher = Pattern.compile("(?m)^( +)(public |private )?[\\w. \\[\\]]+\\w\\([^;{]*\\) \\{$").matcher(code);
        int many = 0;
        while (matcher.find()) {
            int end = code.indexOf("\n" + matcher.group(1) + "}", matcher.end());
            long lines = code.substring(matcher.start(), end).chars().filter(c -> c == '\n').count();
            due.same("sixty lines at most: " + matcher.group().trim(), lines <= 60, true);
            String name = matcher.group().replaceAll("(?s)\\(.*", "").replaceAll(".* ", "");
            boolean callsItself = Pattern.compile("\\b" + name + "\\(").matcher(code.substring(matcher.end(), end)).find();
            due.same("only a static one calls itself: " + name, callsItself && !matcher.group().contains("static "), false);
            many++;
        }
        due.same("the methods were found", many > 60, true);
    }
}
