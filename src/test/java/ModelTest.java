import java.util.Random;

/** Long runs of calls drawn by seeds, each answer compared with the plain model's. */
public final class ModelTest {
    private static final int RUNS = 150, CALLS = 500;
    private static final String[] WORDS = {"rail", "nose", "seats", "fare", "tram", "folk", "tears", "laughter", "debt", "calm"};

    private final Calls calls;
    private final Random random;
    private final NeededStop stop = new NeededStop();
    private final PlainModel model = new PlainModel();
    private final String run;

    private ModelTest(Calls calls, int seed) {
        this.calls = calls;
        random = new Random(seed);
        run = "seed " + seed + ", ";
    }

    public static void main(String[] args) {
        int first = args.length > 0 ? Integer.parseInt(args[0]) : 1;
        int runs = args.length > 1 ? Integer.parseInt(args[1]) : RUNS;
        Calls calls = new Calls();
        // The first run with a wrong answer is told alone: the others would tell the same cause again.
        for (int seed = first; seed < first + runs && !calls.failed(); seed++) {
            ModelTest test = new ModelTest(calls, seed);
            for (int i = 0; i < CALLS; i++) {
                test.callOnce(i);
            }
        }
        calls.end("ModelTest");
    }

    private int upTo(int most) {
        return random.nextInt(most + 1);
    }

    // Mostly within 0 .. most, now and then just outside, rarely far outside.
    private int near(int most) {
        int dice = random.nextInt(40);
        if (dice == 0) return -1;
        if (dice == 1) return most + 1;
        if (dice == 2) return random.nextInt();
        return upTo(most);
    }

    private void due(String call, int got, int want) {
        calls.due(run + call, got, want);
    }

    private void callOnce(int i) {
        int dice = i < 12 ? random.nextInt(12) : random.nextInt(100);
        String at = "call " + i + ": ";
        if (dice < 7) {
            writeLines(at);
        } else if (dice < 12) {
            int z = random.nextInt(30) == 0 ? near(0) * 10000 : 1 + random.nextInt(9999);
            int n = random.nextInt(4) == 0 ? near(24) : 1 + random.nextInt(12);
            due(at + "drawn(" + z + ", " + n + ")", stop.drawn(z, n), model.drawn(z, n));
        } else if (dice < 20) {
            writeNoise(at);
        } else if (dice < 60) {
            askDay(at, dice % 8);
        } else {
            foretell(at, dice % 12);
        }
        for (int what = -1; what <= 12; what++) {
            due(at + "count(" + what + ")", stop.count(what), model.count(what));
        }
    }

    private String line() {
        int places = model.count(0);
        switch (random.nextInt(20)) {
            case 0: return random.nextInt(6) == 0 ? "rail " + (2 + upTo(10)) : "calm";
            case 1: return "nose " + upTo(7) + " " + (1 + upTo(29));
            case 2: return "seats " + (1 + upTo(5));
            case 3: return "fare " + upTo(99);
            case 4: case 5: return "tram " + upTo(1) + " " + upTo(places - 1) + " " + upTo(random.nextBoolean() ? 3 : 59) + " " + upTo(1);
            case 6: case 7: case 8: case 9: case 10:
                int p = upTo(places - 1);
                return "folk " + upTo(7) + " " + p + " " + (p + 1 + upTo(places - 2)) % places;
            default: return WORDS[6 + upTo(2)] + " " + upTo(7) + " " + upTo(random.nextBoolean() ? 20 : 59);
        }
    }

    private String lines() {
        StringBuilder text = new StringBuilder(line());
        int more = random.nextInt(8) == 0 ? 10 : upTo(5);
        for (int i = 0; i < more; i++) {
            text.append(';').append(line());
        }
        if (random.nextInt(5) == 0) {
            int i = upTo(text.length() - 1);
            String sign = " 0 9;az{`/:A".substring(upTo(9));
            if (random.nextBoolean()) text.insert(i, sign.charAt(0)); else text.setCharAt(i, sign.charAt(0));
        }
        return text.toString();
    }

    private void writeLines(String at) {
        String text = lines();
        for (int from = 0; from < text.length(); from += 8) {
            int n = Math.min(8, text.length() - from);
            long bytes = Calls.packed(text.substring(from, from + n));
            due(at + "write of " + text, stop.write(bytes, n), model.write(bytes, n));
        }
        due(at + "fault of " + text, stop.fault(), model.fault());
        due(at + "rail of " + text, stop.rail(), model.rail());
        if (random.nextInt(10) != 0) {
            due(at + "erase of " + text, stop.erase(), model.erase());
        }
    }

    private void writeNoise(String at) {
        int n = near(8);
        long bytes = random.nextLong();
        if (random.nextBoolean()) {
            bytes = Calls.packed((WORDS[upTo(9)] + " " + upTo(12) + "    ").substring(0, 8));
        }
        due(at + "write noise", stop.write(bytes, n), model.write(bytes, n));
        due(at + "fault of noise", stop.fault(), model.fault());
        if (random.nextInt(3) == 0) {
            due(at + "rail of noise", stop.rail(), model.rail());
        }
        if (random.nextInt(6) == 0) {
            due(at + "erase of noise", stop.erase(), model.erase());
        }
    }

    private void askDay(String at, int which) {
        int a = near(which == 0 ? 24 : 8);
        int b = near(5);
        int k = near(1);
        String pair = "(" + a + ", " + b + ")";
        switch (which) {
            case 0: due(at + "mood" + pair, stop.mood(a, b), model.mood(a, b)); break;
            case 1: due(at + "tram" + pair, stop.tram(k, b), model.tram(k, b)); break;
            case 2: due(at + "person" + pair, stop.person(a, b), model.person(a, b)); break;
            case 3: due(at + "halt" + pair, stop.halt(a, b), model.halt(a, b)); break;
            case 4: due(at + "keep(" + k + ")", stop.keep(k), model.keep(k)); break;
            case 5: due(at + "back(" + k + ")", stop.back(k), model.back(k)); break;
            default:
                int n = random.nextInt(10) == 0 ? near(60) : 1 + upTo(4);
                due(at + "go(" + n + ")", stop.go(n), model.go(n));
                compareDay(at);
        }
    }

    private void compareDay(String at) {
        for (int what = 0; what < 5; what++) {
            for (int i = 0; i < 26; i++) {
                String pair = "(" + i + ", " + what + ")";
                due(at + "mood" + pair, stop.mood(i, what), model.mood(i, what));
                due(at + "tram" + pair, stop.tram(i, what), model.tram(i, what));
                due(at + "person" + pair, stop.person(i, what), model.person(i, what));
                due(at + "halt" + pair, stop.halt(i, what), model.halt(i, what));
            }
        }
    }

    private void foretell(String at, int which) {
        int a = near(7);
        int what = near(3);
        switch (which) {
            case 0: due(at + "home(" + a + ")", stop.home(a), model.home(a)); break;
            case 1:
                int n = random.nextInt(5) == 0 ? 2 : near(1);
                due(at + "feigned(" + a + ", " + n + ", " + what + ")", stop.feigned(a, n, what), model.feigned(a, n, what));
                break;
            case 2: due(at + "law(" + what + ")", stop.law(what), model.law(what)); break;
            case 3: a = near(11); due(at + "worn(" + a + ")", stop.worn(a), model.worn(a)); break;
            case 4: due(at + "dry()", stop.dry(), model.dry()); break;
            case 5: due(at + "last(" + what + ")", stop.last(what), model.last(what)); break;
            case 6: due(at + "fares()", stop.fares(), model.fares()); break;
            case 7: see(at); break;
            case 8: if (upTo(2) == 0) due(at + "forget()", stop.forget(), model.forget()); else see(at); break;
            case 9: due(at + "read(" + what + ")", stop.read(what), model.read(what)); break;
            default:
                int part = near(1);
                int kind = near(2);
                due(at + "odds(" + kind + ", " + part + ")", stop.odds(kind, part), model.odds(kind, part));
        }
    }

    // Halts that no law gives leave nothing to read, so most are taken from a whole day.
    private void see(String at) {
        int place = near(11);
        int minute = near(59);
        if (random.nextInt(4) != 0) {
            boolean isFresh = model.count(8) == 0;
            model.keep(1);
            stop.keep(1);
            model.go(60);
            stop.go(60);
            int i = upTo(Math.max(0, model.count(9) - 1));
            place = model.count(9) == 0 ? place : model.halt(i, 1);
            minute = model.count(9) == 0 ? minute : model.halt(i, 2);
            if (isFresh) {
                model.back(1);
                stop.back(1);
            }
        }
        due(at + "seen(" + place + ", " + minute + ")", stop.seen(place, minute), model.seen(place, minute));
    }
}
