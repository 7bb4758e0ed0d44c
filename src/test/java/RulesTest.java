import java.io.IOException;
import java.lang.management.ManagementFactory;
import java.lang.reflect.Constructor;
import java.lang.reflect.Field;
import java.lang.reflect.Method;
import java.lang.reflect.Modifier;
import java.nio.file.Files;
import java.nio.file.Path;
import java.util.Set;
import java.util.TreeSet;
import java.util.regex.Matcher;
import java.util.regex.Pattern;

/** The rules of LANGUAGE.md that a test can see: the face, the words in the source, the room that calls take. */
public final class RulesTest {
    private static final String FACE = "back(int) count(int) drawn(int,int) dry() erase() fares() fault() feigned(int,int,int) "
        + "forget() go(int) halt(int,int) home(int) keep(int) last(int) law(int) mood(int,int) odds(int,int) person(int,int) "
        + "rail() read(int) seen(int,int) tram(int,int) worn(int) write(long,int)";
    private static final String CONSTANTS = "FULL NONE NOT OUTSIDE UNKNOWN";
    private static final Path SOURCE = Path.of("src/main/java/NeededStop.java");

    private final Calls calls = new Calls();

    public static void main(String[] args) throws IOException {
        RulesTest test = new RulesTest();
        test.faceIsTheDocuments();
        test.innerClassesAreStatic();
        test.noForbiddenWords();
        test.callsMakeNoObjects();
        test.calls.end("RulesTest");
    }

    private void holds(String rule, boolean held) {
        calls.due(rule, held ? 1 : 0, 1);
    }

    private void faceIsTheDocuments() {
        Set<String> open = new TreeSet<>();
        Set<String> openNames = new TreeSet<>();
        for (Method method : NeededStop.class.getDeclaredMethods()) {
            int how = method.getModifiers();
            if (Modifier.isPublic(how)) {
                open.add(method.toString().replaceAll(".*NeededStop\\.", ""));
                openNames.add(method.getName());
                holds(method + " answers an int", method.getReturnType() == int.class && !Modifier.isStatic(how));
            }
        }
        holds("the methods are " + FACE + ", not " + String.join(" ", open), String.join(" ", open).equals(FACE));
        for (Method method : NeededStop.class.getDeclaredMethods()) {
            int how = method.getModifiers();
            holds(method + " is public or private", Modifier.isPublic(how) || Modifier.isPrivate(how));
            holds(method + " bears a name of its own", Modifier.isPublic(how) || !openNames.contains(method.getName()));
        }
        Set<String> constants = new TreeSet<>();
        for (Field field : NeededStop.class.getDeclaredFields()) {
            int how = field.getModifiers();
            if (Modifier.isPublic(how)) {
                constants.add(field.getName());
            }
            holds(field + " is public or private", Modifier.isPublic(how) || Modifier.isPrivate(how));
            holds(field + " is final, if static", !Modifier.isStatic(how) || Modifier.isFinal(how));
        }
        holds("the constants", String.join(" ", constants).equals(CONSTANTS));
        Constructor<?>[] made = NeededStop.class.getDeclaredConstructors();
        holds("one public constructor", made.length == 1 && Modifier.isPublic(made[0].getModifiers()) && made[0].getParameterCount() == 0);
        holds("the class is final", Modifier.isFinal(NeededStop.class.getModifiers()));
    }

    private void innerClassesAreStatic() {
        Class<?>[] inside = NeededStop.class.getDeclaredClasses();
        holds("at most twelve classes", inside.length < 12);
        for (Class<?> one : inside) {
            int how = one.getModifiers();
            holds(one + " is static and not public", Modifier.isStatic(how) && !Modifier.isPublic(how));
            int fields = 0;
            for (Field field : one.getDeclaredFields()) {
                fields += Modifier.isStatic(field.getModifiers()) ? 0 : 1;
            }
            holds(one + " has at most twenty fields", fields <= 20);
        }
    }

    private void noForbiddenWords() throws IOException {
        String source = Files.readString(SOURCE).replaceAll("//[^\n]*", "").replaceAll("(?s)/\\*.*?\\*/", "").replaceAll("\"[^\"]*\"", "\"\"");
        String forbidden = "\\b(throw|throws|try|catch|synchronized|assert|package|protected|volatile|transient|native|hashCode|toString)\\b"
            + "|->|::|\\w+Exact\\b|[^\\x00-\\x7f]";
        Matcher found = Pattern.compile(forbidden).matcher(source);
        holds("no forbidden word", !found.find());
        Matcher imports = Pattern.compile("import ([^;]*);").matcher(source);
        while (imports.find()) {
            holds("import " + imports.group(1), imports.group(1).equals("java.util.Arrays"));
        }
    }

    // Every call works in rows that the constructor made, so that all calls of a run stay in one room.
    private void callsMakeNoObjects() {
        NeededStop stop = Calls.told("rail 8;tram 0 0 0 0;tram 1 7 0 1;folk 0 1 6;folk 1 6 1;folk 2 3 4;folk 3 4 3");
        stop.drawn(4242, 20);
        com.sun.management.ThreadMXBean threads = (com.sun.management.ThreadMXBean) ManagementFactory.getThreadMXBean();
        threads.getCurrentThreadAllocatedBytes();
        long bytes = threads.getCurrentThreadAllocatedBytes();
        for (int i = 0; i < 40; i++) {
            stop.feigned(i % 4, 2, 0);
            stop.seen(i % 8, i);
            stop.read(0);
            stop.odds(0, 0);
            stop.law(0);
            stop.last(1);
            stop.fault();
            stop.keep(0);
            stop.go(1);
            stop.back(0);
            stop.dry();
            stop.forget();
        }
        bytes = threads.getCurrentThreadAllocatedBytes() - bytes;
        holds("480 calls made " + bytes + " bytes", bytes < 4096);
    }
}
