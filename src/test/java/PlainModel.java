import java.util.ArrayList;
import java.util.List;
import java.util.regex.Matcher;
import java.util.regex.Pattern;

/** The document once more, in its plainest and slowest form, to compare the class with. */
final class PlainModel {
    static final int NONE = -1, UNKNOWN = -2, OUTSIDE = -3, NOT = -4, FULL = -5;

    record Mood(int who, int kind, int minute) { }
    record Tram(int place, int minute, int way) { }
    record Folk(int place, int home) { }
    record Halt(int tram, int place, int minute, int mood) { }

    static final class World {
        int places = 6, kinds = 7, span = 10, seats = 4, fare = 1;
        Tram[] trams = new Tram[2];
        Folk[] folk = new Folk[8];
        List<Mood> moods = new ArrayList<>();

        World copy() {
            World w = new World();
            w.places = places; w.kinds = kinds; w.span = span; w.seats = seats; w.fare = fare;
            w.trams = trams.clone();
            w.folk = folk.clone();
            w.moods = new ArrayList<>(moods);
            return w;
        }

        List<Integer> people() {
            List<Integer> who = new ArrayList<>();
            for (int p = 0; p < 8; p++) if (folk[p] != null) who.add(p);
            return who;
        }
    }

    static final class State {
        int minute;
        int[] at = new int[2], way = new int[2];
        boolean[] stood = new boolean[2];
        int[] ride = {-1, -1, -1, -1, -1, -1, -1, -1};
        int[] homed = {-1, -1, -1, -1, -1, -1, -1, -1};
        int[] owes = new int[8];
        int[] felt = new int[40];
        boolean[] spent = new boolean[40];
        List<Halt> halts = new ArrayList<>();

        State(World w) {
            java.util.Arrays.fill(felt, -1);
            for (int k = 0; k < 2; k++) if (w.trams[k] != null) { at[k] = w.trams[k].place(); way[k] = w.trams[k].way(); }
        }

        State(State o) {
            minute = o.minute; at = o.at.clone(); way = o.way.clone(); stood = o.stood.clone(); ride = o.ride.clone();
            homed = o.homed.clone(); owes = o.owes.clone(); felt = o.felt.clone(); spent = o.spent.clone();
            halts = new ArrayList<>(o.halts);
        }

        int where(World w, int p) {
            if (ride[p] >= 0) return at[ride[p]];
            return homed[p] >= 0 ? w.folk[p].home() : w.folk[p].place();
        }

        void step(World w, int kinds, int span) {
            for (int m = 0; m < w.moods.size(); m++) if (w.moods.get(m).minute() == minute) felt[m] = where(w, w.moods.get(m).who());
            for (int k = 0; k < 2; k++) {
                if (w.trams[k] == null || w.trams[k].minute() > minute) continue;
                int found = -1;
                for (int ago = span - 1; ago >= 0 && found < 0 && !stood[k]; ago--) {
                    for (int m = 0; m < w.moods.size() && found < 0; m++) {
                        Mood mood = w.moods.get(m);
                        if (felt[m] == at[k] && !spent[m] && (kinds & 1 << mood.kind()) != 0 && mood.minute() == minute - ago) found = m;
                    }
                }
                if (found >= 0) {
                    spent[found] = true;
                    stood[k] = true;
                    halts.add(new Halt(k, at[k], minute, found));
                    int aboard = 0;
                    for (int p = 0; p < 8; p++) if (ride[p] == k) {
                        if (w.folk[p].home() == at[k]) { ride[p] = -1; homed[p] = minute; } else aboard++;
                    }
                    for (int p = 0; p < 8; p++) {
                        if (w.folk[p] != null && ride[p] < 0 && homed[p] < 0 && w.folk[p].place() == at[k] && aboard < w.seats) { ride[p] = k; aboard++; }
                    }
                } else {
                    if (way[k] == 0 && at[k] == w.places - 1) way[k] = 1;
                    else if (way[k] == 1 && at[k] == 0) way[k] = 0;
                    at[k] += way[k] == 0 ? 1 : -1;
                    stood[k] = false;
                    for (int p = 0; p < 8; p++) if (ride[p] == k) owes[p] += w.fare;
                }
            }
            minute++;
        }
    }

    World world = new World();
    State state = new State(world);
    State[] kept = new State[2];
    StringBuilder text = new StringBuilder();
    List<int[]> seen = new ArrayList<>();

    // The outcome of a text: the fault's place or NONE, its lines, and the world behind them.
    private int faultAt, lineCount;
    private World behind;

    private static State whole(World w, int kinds, int span) {
        State s = new State(w);
        for (int t = 0; t < 60; t++) s.step(w, kinds, span);
        return s;
    }

    private State whole() { return whole(world, world.kinds, world.span); }

    private void parse() {
        List<String> tokens = new ArrayList<>();
        List<Integer> starts = new ArrayList<>();
        Matcher m = Pattern.compile("[a-z]+|[0-9]+|[^ ]", Pattern.DOTALL).matcher(text);
        while (m.find()) { tokens.add(m.group()); starts.add(m.start()); }
        tokens.add("");
        starts.add(text.length());
        behind = world.copy();
        lineCount = 0;
        faultAt = NONE;
        int i = 0;
        while (true) {
            int fine = lineEnd(tokens, i);
            if (fine < 0) { faultAt = starts.get(-fine - 1); return; }
            i = fine;
            lineCount++;
            if (tokens.get(i).isEmpty()) return;
            if (!tokens.get(i).equals(";") || lineCount == 10) { faultAt = starts.get(i); return; }
            i++;
        }
    }

    // The token behind the line that begins at i, the line being done; or minus the bad token less 1.
    private int lineEnd(List<String> tokens, int i) {
        List<Integer> v = new ArrayList<>();
        String word = tokens.get(i);
        World b = behind;
        int last = b.places - 1;
        int[][] bounds;
        switch (word) {
            case "rail": bounds = new int[][] {{2, 12}}; break;
            case "nose": bounds = new int[][] {{0, 7}, {1, 30}}; break;
            case "seats": bounds = new int[][] {{1, 6}}; break;
            case "fare": bounds = new int[][] {{0, 99}}; break;
            case "tram": bounds = new int[][] {{0, 1}, {0, last}, {0, 59}, {0, 1}}; break;
            case "folk": bounds = new int[][] {{0, 7}, {0, last}, {0, last}}; break;
            case "tears": case "laughter": case "debt":
                if (b.moods.size() == 24) return -i - 1;
                bounds = new int[][] {{0, 7}, {0, 59}};
                break;
            case "calm": bounds = new int[0][]; break;
            default: return -i - 1;
        }
        boolean isMood = word.equals("tears") || word.equals("laughter") || word.equals("debt");
        for (int[] bound : bounds) {
            i++;
            if (!tokens.get(i).matches("[0-9]{1,2}")) return -i - 1;
            int x = Integer.parseInt(tokens.get(i));
            if (x < bound[0] || x > bound[1]) return -i - 1;
            if (word.equals("folk") && v.size() == 2 && v.get(1) == x) return -i - 1;
            if (isMood && v.isEmpty() && b.folk[x] == null) return -i - 1;
            v.add(x);
        }
        switch (word) {
            case "rail": b.places = v.get(0); b.trams = new Tram[2]; b.folk = new Folk[8]; b.moods.clear(); break;
            case "nose": b.kinds = v.get(0); b.span = v.get(1); break;
            case "seats": b.seats = v.get(0); break;
            case "fare": b.fare = v.get(0); break;
            case "tram": b.trams[v.get(0)] = new Tram(v.get(1), v.get(2), v.get(3)); break;
            case "folk": b.folk[v.get(0)] = new Folk(v.get(1), v.get(2)); break;
            case "calm": b.moods.clear(); break;
            default: b.moods.add(new Mood(v.get(0), List.of("tears", "laughter", "debt").indexOf(word), v.get(1)));
        }
        return i + 1;
    }

    int write(long bytes, int n) {
        if (n < 1 || n > 8) return OUTSIDE;
        if (text.length() + n > 200) return FULL;
        for (int i = 0; i < n; i++) text.append((char) (bytes >> 8 * i & 255));
        return text.length();
    }

    int erase() { int n = text.length(); text.setLength(0); return n; }

    int fault() { parse(); return faultAt; }

    int rail() {
        parse();
        if (faultAt != NONE) return NOT;
        world = behind;
        text.setLength(0);
        state = new State(world);
        kept = new State[2];
        seen.clear();
        return lineCount;
    }

    int mood(int mood, int what) {
        if (mood < 0 || mood >= world.moods.size()) return UNKNOWN;
        if (what < 0 || what > 4) return OUTSIDE;
        Mood m = world.moods.get(mood);
        return new int[] {m.who(), m.kind(), m.minute(), state.felt[mood], state.spent[mood] ? 1 : 0}[what];
    }

    int drawn(int z, int n) {
        if (z < 1 || z > 9999 || n < 1 || n > 24) return OUTSIDE;
        List<Integer> who = world.people();
        if (state.minute > 0 || who.isEmpty()) return NOT;
        if (world.moods.size() + n > 24) return FULL;
        long x = z;
        for (int i = 0; i < n; i++) {
            x = 16807 * x % 65521;
            world.moods.add(new Mood(who.get((int) (x % who.size())), (int) (x / 8 % 3), (int) (x / 32 % 60)));
        }
        kept = new State[2];
        return world.moods.size();
    }

    int go(int n) {
        if (n < 1 || n > 60) return OUTSIDE;
        for (int i = 0; i < n && state.minute < 60; i++) state.step(world, world.kinds, world.span);
        return state.minute;
    }

    int tram(int tram, int what) {
        if (tram < 0 || tram > 1 || world.trams[tram] == null) return UNKNOWN;
        if (what < 0 || what > 3) return OUTSIDE;
        int aboard = 0, halts = 0;
        for (int p = 0; p < 8; p++) if (state.ride[p] == tram) aboard += 1 << p;
        for (Halt h : state.halts) if (h.tram() == tram) halts++;
        return new int[] {state.at[tram], state.way[tram], aboard, halts}[what];
    }

    private boolean nobody(int p) { return p < 0 || p > 7 || world.folk[p] == null; }

    int person(int p, int what) {
        if (nobody(p)) return UNKNOWN;
        if (what < 0 || what > 4) return OUTSIDE;
        return new int[] {state.where(world, p), state.ride[p], state.homed[p], state.owes[p], world.folk[p].home()}[what];
    }

    int halt(int i, int what) {
        if (i < 0 || what < 0 || what > 4) return OUTSIDE;
        if (i >= state.halts.size()) return NONE;
        Halt h = state.halts.get(i);
        return new int[] {h.tram(), h.place(), h.minute(), h.mood(), world.moods.get(h.mood()).who()}[what];
    }

    int keep(int k) {
        if (k < 0 || k > 1) return UNKNOWN;
        kept[k] = new State(state);
        return state.minute;
    }

    int back(int k) {
        if (k < 0 || k > 1) return UNKNOWN;
        if (kept[k] == null) return NOT;
        state = new State(kept[k]);
        return state.minute;
    }

    int home(int p) { return nobody(p) ? UNKNOWN : whole().homed[p]; }

    int feigned(int p, int n, int what) {
        if (nobody(p)) return UNKNOWN;
        if (n < 0 || n > 2 || what < 0 || what > 3) return OUTSIDE;
        int kind = 0;
        for (int k = 2; k >= 0; k--) if ((world.kinds & 1 << k) != 0) kind = k;
        int[] best = {60, NONE, NONE, NONE};
        List<int[]> ways = new ArrayList<>();
        ways.add(new int[0]);
        if (n >= 1) for (int a = 0; a < 60; a++) ways.add(new int[] {a});
        if (n >= 2) for (int a = 0; a < 60; a++) for (int b = a + 1; b < 60; b++) ways.add(new int[] {a, b});
        for (int[] way : ways) {
            World w = world.copy();
            for (int minute : way) w.moods.add(new Mood(p, kind, minute));
            int homed = whole(w, w.kinds, w.span).homed[p];
            if (homed >= 0 && homed < best[0]) {
                best = new int[] {homed, way.length, way.length > 0 ? way[0] : NONE, way.length > 1 ? way[1] : NONE};
            }
        }
        return best[0] == 60 ? NONE : best[what];
    }

    private static int late(State s, int p) { return s.homed[p] < 0 ? 60 : s.homed[p]; }

    int law(int what) {
        if (what < 0 || what > 1) return OUTSIDE;
        int best = -1, least = 0;
        for (int kinds = 0; kinds < 8; kinds++) {
            State s = whole(world, kinds, world.span);
            int all = 0;
            for (int p : world.people()) all += late(s, p);
            if (best < 0 || all < least) { best = kinds; least = all; }
        }
        return what == 0 ? best : least;
    }

    int worn(int place) {
        if (place < 0 || place >= world.places) return UNKNOWN;
        return (int) whole().halts.stream().filter(h -> h.place() == place).count();
    }

    int dry() {
        int bits = 0;
        for (int place = 0; place < world.places; place++) if (worn(place) == 0) bits += 1 << place;
        return bits;
    }

    private static int part(int above, int below, int part) {
        int d = java.math.BigInteger.valueOf(above).gcd(java.math.BigInteger.valueOf(below)).intValue();
        return (part == 0 ? above : below) / d;
    }

    int last(int what) {
        if (what < 0 || what > 2) return OUTSIDE;
        State s = whole();
        int best = NONE, sum = 0, number = 1;
        for (int place = world.places - 1; place >= 0; place--) {
            int all = 0, n = 0;
            for (int p : world.people()) if (world.folk[p].place() == place) { all += late(s, p); n++; }
            if (n > 0 && (best < 0 || (long) all * number >= (long) sum * n)) { best = place; sum = all; number = n; }
        }
        return best < 0 || what == 0 ? best : part(sum, number, what - 1);
    }

    int fares() {
        int all = 0;
        for (int owes : whole().owes) all += owes;
        return all;
    }

    int seen(int place, int minute) {
        if (place < 0 || place >= world.places) return UNKNOWN;
        if (minute < 0 || minute > 59) return OUTSIDE;
        if (seen.size() == 8) return FULL;
        seen.add(new int[] {place, minute});
        return seen.size();
    }

    int forget() { int n = seen.size(); seen.clear(); return n; }

    private List<int[]> laws() {
        List<int[]> laws = new ArrayList<>();
        for (int kinds = 1; kinds < 8; kinds++) for (int span = 1; span <= 30; span++) {
            State s = whole(world, kinds, span);
            boolean fits = true;
            for (int[] x : seen) fits &= s.halts.stream().anyMatch(h -> h.place() == x[0] && h.minute() == x[1]);
            if (fits) laws.add(new int[] {kinds, span});
        }
        return laws;
    }

    int read(int what) {
        if (what < 0 || what > 2) return OUTSIDE;
        List<int[]> laws = laws();
        if (what == 0) return laws.size();
        return laws.isEmpty() ? NONE : laws.get(0)[what - 1];
    }

    int odds(int kind, int part) {
        if (kind < 0 || kind > 2 || part < 0 || part > 1) return OUTSIDE;
        List<int[]> laws = laws();
        if (laws.isEmpty()) return NOT;
        return part((int) laws.stream().filter(l -> (l[0] & 1 << kind) != 0).count(), laws.size(), part);
    }

    int count(int what) {
        if (what < 0 || what > 11) return OUTSIDE;
        int trams = 0, folk = 0;
        for (int k = 0; k < 2; k++) if (world.trams[k] != null) trams += 1 << k;
        for (int p : world.people()) folk += 1 << p;
        return new int[] {world.places, world.kinds, world.span, world.seats, world.fare, trams, folk,
            world.moods.size(), state.minute, state.halts.size(), seen.size(), text.length()}[what];
    }
}
