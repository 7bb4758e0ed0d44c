import java.lang.reflect.InvocationTargetException;
import java.lang.reflect.Method;
import java.lang.reflect.Modifier;
import java.util.Arrays;
import java.util.Comparator;
import java.util.List;
import java.util.function.IntUnaryOperator;

/** What the tests of edges share: a sentence of the document is a method of its own, and every one is run. */
abstract class Edges {
    static final int NONE = -1, UNKNOWN = -2, OUTSIDE = -3, NOT = -4, FULL = -5;
    static final int LEAST = Integer.MIN_VALUE, GREATEST = Integer.MAX_VALUE;
    static final String[] MOOD_WORDS = {"tears", "laughter", "debt"};
    static final String ALL_FOLK = "folk 0 1 3;folk 1 1 3;folk 2 1 3;folk 3 1 3;folk 4 1 3;folk 5 1 3;folk 6 1 3;folk 7 1 3";

    private final Calls calls = new Calls();
    private String sentence = "";

    // Sentences are found, not listed, so that none is forgotten.
    final void runAll() throws IllegalAccessException {
        List<Method> sentences = Arrays.stream(getClass().getDeclaredMethods()).filter(Edges::isSentence)
            .sorted(Comparator.comparing(Method::getName)).toList();
        for (Method one : sentences) {
            sentence = one.getName();
            try {
                one.invoke(this);
            } catch (InvocationTargetException thrown) {
                thrown.getCause().printStackTrace(System.out);
                due("threw " + thrown.getCause(), 1, 0);
            }
        }
        due("sentences are found", sentences.isEmpty() ? 0 : 1, 1);
        calls.end(getClass().getName() + ": " + sentences.size() + " sentences");
    }

    private static boolean isSentence(Method method) {
        int how = method.getModifiers();
        return method.getParameterCount() == 0 && method.getReturnType() == void.class
            && !Modifier.isStatic(how) && !Modifier.isPrivate(how) && !method.isSynthetic();
    }

    final void due(String call, int got, int want) {
        calls.due(sentence + ": " + call, got, want);
    }

    /** The answers of a call to 0, 1 .. in their order. */
    final void dueRow(String call, IntUnaryOperator asked, int... want) {
        for (int i = 0; i < want.length; i++) {
            due(call + " of " + i, asked.applyAsInt(i), want[i]);
        }
    }

    /** What lies next to the numbers that are taken, and far from them, is refused. */
    final void dueBeyond(String call, IntUnaryOperator asked, int least, int most, int refusal) {
        for (int wrong : new int[] {least - 1, least - 2, most + 1, most + 2, least - 32, most + 32, most + 256, LEAST, LEAST + 1, GREATEST - 1, GREATEST}) {
            due(call + " of " + wrong, asked.applyAsInt(wrong), refusal);
        }
    }

    final void dueFault(NeededStop stop, String text, int want) {
        stop.erase();
        Calls.writeText(stop, text);
        due("fault of '" + text + "'", stop.fault(), want);
        due("rail of '" + text + "' is refused", stop.rail() == NOT ? 1 : 0, want == NONE ? 0 : 1);
    }

    final void dueFault(String text, int want) {
        dueFault(new NeededStop(), text, want);
    }

    final void tell(NeededStop stop, String text) {
        Calls.writeText(stop, text);
        due("rail of '" + text + "'", stop.rail(), text.split(";").length);
    }

    static NeededStop gone(int minutes, String... texts) {
        NeededStop stop = Calls.told(texts);
        stop.go(minutes);
        return stop;
    }

    /** One line again and again, with the separator between. */
    static String lines(String line, int number) {
        return String.join(";", java.util.Collections.nCopies(number, line));
    }
}
