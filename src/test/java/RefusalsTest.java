import java.lang.reflect.Method;
import java.lang.reflect.Modifier;
import java.util.ArrayList;
import java.util.Arrays;
import java.util.Comparator;
import java.util.List;
import java.util.function.ToIntFunction;

/** Refused calls change nothing, no number makes a call throw, and an object stands 512 calls. */
public final class RefusalsTest extends Edges {
    private static final int[] NUMBERS = {LEAST, LEAST + 1, -65536, -256, -33, -32, -31, -9, -8, -3, -2, -1, 0, 1, 2, 3, 4, 5, 6, 7, 8, 9, 10,
        11, 12, 13, 23, 24, 25, 26, 30, 31, 32, 33, 58, 59, 60, 61, 63, 64, 199, 200, 201, 255, 256, 9999, 10000, 65536, GREATEST - 1, GREATEST};
    private static final int[] FEW_NUMBERS = {LEAST, -1, 0, 1, 2, 3, 4, 7, 8, 32, GREATEST};
    private static final List<String> ASKING = List.of("fault", "mood", "tram", "person", "halt", "home", "feigned", "law", "worn", "dry", "last", "fares",
        "read", "odds", "count");

    // The states in which calls are refused; the same calls make each of them on the class and on the model.
    private static final String[][] STATES = {
        {},
        {"text rail 4;tram 0 0 0 0;folk 0 1 3;folk 1 0 2;tears 0 1;tears 0 4"},
        {"text rail 8;tram 0 0 0 0;tram 1 7 3 1;folk 0 1 6;folk 1 6 1;folk 2 3 4;folk 7 4 3", "drawn 4242 20", "go 20", "keep 0", "go 9", "keep 1",
            "seen 6 6", "seen 3 20", "write fare 100"},
        {"text rail 2;nose 7 30;seats 1;fare 99;tram 1 0 0 0;folk 0 0 1;folk 7 1 0", "drawn 9999 24", "keep 1", "seen 0 0", "seen 1 1", "seen 0 0",
            "seen 1 59", "seen 1 2", "seen 0 5", "seen 0 5", "seen 1 7", "write " + "calm".repeat(50), "go 60"},
        {"text rail 12;nose 0 1;tram 0 11 59 0;folk 3 11 0", "text tears 3 59;debt 3 0", "keep 0", "seen 11 59", "write fare 7;calm"},
    };

    public static void main(String[] args) throws IllegalAccessException {
        new RefusalsTest().runAll();
    }

    private static int call(Object on, String name, Object... numbers) {
        try {
            for (Method method : on.getClass().getDeclaredMethods()) {
                if (method.getName().equals(name) && method.getParameterCount() == numbers.length) {
                    return (int) method.invoke(on, numbers);
                }
            }
        } catch (ReflectiveOperationException thrown) {
            throw new IllegalStateException(name + Arrays.toString(numbers), thrown);
        }
        throw new IllegalStateException("no call " + name);
    }

    private static void doStep(Object on, String step) {
        String word = step.split(" ")[0];
        String rest = step.substring(word.length() + 1);
        if (word.equals("text") || word.equals("write")) {
            for (int from = 0; from < rest.length(); from += 8) {
                int n = Math.min(8, rest.length() - from);
                call(on, "write", Calls.packed(rest.substring(from, from + n)), n);
            }
            if (word.equals("text") && call(on, "rail") < 0) {
                throw new IllegalStateException("a test's own text has a fault: " + rest);
            }
        } else {
            Object[] numbers = Arrays.stream(rest.split(" ")).map(Integer::valueOf).toArray();
            if (call(on, word, numbers) < 0) {
                throw new IllegalStateException("a test's own step is refused: " + step);
            }
        }
    }

    private static <T> T in(String[] state, T on) {
        for (String step : state) {
            doStep(on, step);
        }
        return on;
    }

    // ---- no number makes a call throw, and each is answered as the plain model answers

    void everyNumberIsAnswered() {
        List<Method> face = Arrays.stream(NeededStop.class.getDeclaredMethods())
            .filter(method -> Modifier.isPublic(method.getModifiers())).sorted(Comparator.comparing(Method::getName)).toList();
        for (String[] state : STATES) {
            for (Method method : face) {
                sweep(state, method);
            }
        }
    }

    private void sweep(String[] state, Method method) {
        NeededStop stop = in(state, new NeededStop());
        PlainModel model = in(state, new PlainModel());
        int asked = 0;
        for (Object[] numbers : numbersFor(method)) {
            // A state is made anew behind a call that changed it, and well ahead of an object's 512th call.
            if (asked > 400) {
                stop = in(state, new NeededStop());
                model = in(state, new PlainModel());
                asked = 0;
            }
            int want = call(model, method.getName(), numbers);
            due(method.getName() + Arrays.toString(numbers) + " behind " + Arrays.toString(state), call(stop, method.getName(), numbers), want);
            asked += want < NONE || ASKING.contains(method.getName()) ? 1 : 512;
        }
    }

    private static List<Object[]> numbersFor(Method method) {
        List<Object[]> all = new ArrayList<>();
        all.add(new Object[0]);
        for (Class<?> type : method.getParameterTypes()) {
            List<Object[]> longer = new ArrayList<>();
            for (Object[] some : all) {
                for (int number : method.getParameterCount() > 2 ? FEW_NUMBERS : NUMBERS) {
                    Object[] more = Arrays.copyOf(some, some.length + 1);
                    more[some.length] = type == long.class ? (Object) (long) number : (Object) number;
                    longer.add(more);
                }
            }
            all = longer;
        }
        return all;
    }

    // ---- a refused call changes nothing

    private static List<Integer> answersNow(NeededStop stop) {
        List<Integer> all = new ArrayList<>();
        for (int what = 0; what < 12; what++) {
            all.add(stop.count(what));
        }
        for (int i = 0; i < 25; i++) {
            for (int what = 0; what < 5; what++) {
                all.add(stop.mood(i, what));
                all.add(stop.halt(i, what));
                all.add(i < 8 ? stop.person(i, what) : NONE);
                all.add(i < 2 ? stop.tram(i, what) : NONE);
            }
        }
        return all;
    }

    private static List<Integer> answersForetold(NeededStop stop) {
        List<Integer> all = new ArrayList<>(List.of(stop.law(0), stop.law(1), stop.dry(), stop.fares(), stop.fault()));
        for (int i = 0; i < 12; i++) {
            all.add(stop.worn(i));
            all.add(i < 8 ? stop.home(i) : NONE);
            all.add(i < 3 ? stop.last(i) : NONE);
            all.add(i < 3 ? stop.read(i) : NONE);
            all.add(i < 3 ? stop.odds(i, 0) : NONE);
            all.add(i < 3 ? stop.odds(i, 1) : NONE);
            for (int what = 0; what < 4 && i < 8; what++) {
                all.add(stop.feigned(i, 2, what));
            }
        }
        return all;
    }

    // What cannot be asked at once is asked behind calls that bring it to light.
    private static List<Integer> answersBehind(NeededStop stop, int way) {
        List<Integer> all = new ArrayList<>();
        switch (way) {
            case 0: break;
            case 1: all.addAll(answersForetold(stop)); return all;
            case 2: all.add(stop.back(0)); break;
            case 3: all.add(stop.back(1)); all.add(stop.go(5)); break;
            case 4: all.add(stop.go(60)); break;
            default: all.add(stop.rail()); break;
        }
        all.addAll(answersNow(stop));
        return all;
    }

    private void dueNothingChanged(String[] state, String name, int want, ToIntFunction<NeededStop> refused) {
        for (int way = 0; way < 6; way++) {
            NeededStop stop = in(state, new NeededStop());
            due(name + " behind " + Arrays.toString(state), refused.applyAsInt(stop), want);
            boolean isSame = answersBehind(stop, way).equals(answersBehind(in(state, new NeededStop()), way));
            due(name + " changed nothing, way " + way + ", behind " + Arrays.toString(state), isSame ? 1 : 0, 1);
        }
    }

    void refusedWhateverTheStateIs() {
        for (String[] state : STATES) {
            dueNothingChanged(state, "write(.., 0)", OUTSIDE, stop -> stop.write(-1, 0));
            dueNothingChanged(state, "write(.., 9)", OUTSIDE, stop -> stop.write(-1, 9));
            dueNothingChanged(state, "mood(24, 0)", UNKNOWN, stop -> stop.mood(24, 0));
            dueNothingChanged(state, "drawn(0, 1)", OUTSIDE, stop -> stop.drawn(0, 1));
            dueNothingChanged(state, "drawn(10000, 1)", OUTSIDE, stop -> stop.drawn(10000, 1));
            dueNothingChanged(state, "drawn(1, 0)", OUTSIDE, stop -> stop.drawn(1, 0));
            dueNothingChanged(state, "drawn(1, 25)", OUTSIDE, stop -> stop.drawn(1, 25));
            dueNothingChanged(state, "go(0)", OUTSIDE, stop -> stop.go(0));
            dueNothingChanged(state, "go(61)", OUTSIDE, stop -> stop.go(61));
            dueNothingChanged(state, "tram(2, 0)", UNKNOWN, stop -> stop.tram(2, 0));
            dueNothingChanged(state, "person(8, 0)", UNKNOWN, stop -> stop.person(8, 0));
            dueNothingChanged(state, "halt(-1, 0)", OUTSIDE, stop -> stop.halt(-1, 0));
            dueNothingChanged(state, "halt(0, 5)", OUTSIDE, stop -> stop.halt(0, 5));
            dueNothingChanged(state, "keep(-1)", UNKNOWN, stop -> stop.keep(-1));
            dueNothingChanged(state, "keep(2)", UNKNOWN, stop -> stop.keep(2));
            dueNothingChanged(state, "back(-1)", UNKNOWN, stop -> stop.back(-1));
            dueNothingChanged(state, "back(2)", UNKNOWN, stop -> stop.back(2));
            dueNothingChanged(state, "home(8)", UNKNOWN, stop -> stop.home(8));
            dueNothingChanged(state, "feigned(8, 2, 0)", UNKNOWN, stop -> stop.feigned(8, 2, 0));
            dueNothingChanged(state, "law(2)", OUTSIDE, stop -> stop.law(2));
            dueNothingChanged(state, "worn(12)", UNKNOWN, stop -> stop.worn(12));
            dueNothingChanged(state, "last(3)", OUTSIDE, stop -> stop.last(3));
            dueNothingChanged(state, "seen(12, 0)", UNKNOWN, stop -> stop.seen(12, 0));
            dueNothingChanged(state, "seen(-1, 0)", UNKNOWN, stop -> stop.seen(-1, 0));
            dueNothingChanged(state, "seen(0, 60)", OUTSIDE, stop -> stop.seen(0, 60));
            dueNothingChanged(state, "seen(0, -1)", OUTSIDE, stop -> stop.seen(0, -1));
            dueNothingChanged(state, "read(3)", OUTSIDE, stop -> stop.read(3));
            dueNothingChanged(state, "odds(3, 0)", OUTSIDE, stop -> stop.odds(3, 0));
            dueNothingChanged(state, "odds(0, 2)", OUTSIDE, stop -> stop.odds(0, 2));
            dueNothingChanged(state, "count(12)", OUTSIDE, stop -> stop.count(12));
        }
    }

    void refusedAsNot() {
        for (int state = 0; state < 4; state++) {
            dueNothingChanged(STATES[state], "rail()", NOT, NeededStop::rail);
        }
        dueNothingChanged(STATES[0], "drawn(1, 1)", NOT, stop -> stop.drawn(1, 1));
        dueNothingChanged(STATES[2], "drawn(1, 1)", NOT, stop -> stop.drawn(1, 1));
        dueNothingChanged(STATES[3], "drawn(1, 1)", NOT, stop -> stop.drawn(1, 1));
        dueNothingChanged(STATES[1], "back(0)", NOT, stop -> stop.back(0));
        dueNothingChanged(STATES[3], "back(0)", NOT, stop -> stop.back(0));
        dueNothingChanged(STATES[4], "back(1)", NOT, stop -> stop.back(1));
        dueNothingChanged(STATES[3], "odds(0, 0)", NOT, stop -> stop.odds(0, 0));
    }

    void refusedAsFull() {
        dueNothingChanged(STATES[3], "write(.., 1)", FULL, stop -> stop.write(';', 1));
        dueNothingChanged(STATES[3], "seen(0, 0)", FULL, stop -> stop.seen(0, 0));
        dueNothingChanged(STATES[4], "drawn(1, 23)", FULL, stop -> stop.drawn(1, 23));
    }

    void refusedOfOneThatIsTold() {
        for (int state = 1; state < 4; state++) {
            dueNothingChanged(STATES[state], "mood(0, 5)", OUTSIDE, stop -> stop.mood(0, 5));
            dueNothingChanged(STATES[state], "person(0, 5)", OUTSIDE, stop -> stop.person(0, 5));
            dueNothingChanged(STATES[state], "feigned(0, 3, 0)", OUTSIDE, stop -> stop.feigned(0, 3, 0));
            dueNothingChanged(STATES[state], "feigned(0, 2, 4)", OUTSIDE, stop -> stop.feigned(0, 2, 4));
        }
        dueNothingChanged(STATES[1], "tram(0, 4)", OUTSIDE, stop -> stop.tram(0, 4));
        dueNothingChanged(STATES[3], "tram(1, 4)", OUTSIDE, stop -> stop.tram(1, 4));
    }

    // ---- what is foretold or read back changes nothing either

    void askedChangesNothing() {
        for (String[] state : STATES) {
            for (int way = 0; way < 6; way++) {
                NeededStop stop = in(state, new NeededStop());
                answersForetold(stop);
                boolean isSame = answersBehind(stop, way).equals(answersBehind(in(state, new NeededStop()), way));
                due("all was asked, way " + way + ", behind " + Arrays.toString(state), isSame ? 1 : 0, 1);
            }
        }
    }

    // ---- an object is used for at most 512 calls

    void the512thCallIsAnswered() {
        NeededStop stop = new NeededStop();
        for (int i = 1; i < 512; i++) {
            due("go", stop.go(1), Math.min(i, 60));
        }
        due("the 512th", stop.count(8), 60);
        NeededStop writer = new NeededStop();
        for (int i = 1; i < 512; i++) {
            due("write", writer.write(32, 1), i <= 200 ? i : FULL);
        }
        due("the 512th", writer.erase(), 200);
    }

    void the512thOfDearCallsIsAnswered() {
        NeededStop stop = Calls.told("rail 8;tram 0 0 0 0;tram 1 7 0 1;folk 0 1 6;folk 1 6 1;folk 2 3 4;folk 3 4 3");
        stop.drawn(4242, 20);
        int soonest = stop.feigned(2, 2, 0);
        int laws = stop.read(0);
        // Some twelve calls have told it; six more in each round.
        for (int i = 16; i + 6 <= 512; i += 6) {
            due("keep", stop.keep(i % 2), stop.count(8));
            due("seen", stop.seen(0, 0), 1);
            due("forget", stop.forget(), 1);
            due("read", stop.read(0), laws);
            due("feigned", stop.feigned(2, 2, 0), soonest);
        }
    }

    void moreCallsThan512DoNotThrow() {
        NeededStop stop = in(STATES[2], new NeededStop());
        for (int i = 0; i < 3000; i++) {
            stop.write(i, 1 + i % 8);
            stop.keep(i % 2);
            stop.go(1);
            stop.back(i % 2);
            stop.seen(i % 8, i % 60);
            stop.halt(i, i % 5);
        }
        due("bytes", stop.count(11) <= 200 ? 1 : 0, 1);
    }
}
