import java.util.Arrays;

/** Trams that halt only where somebody has wept, laughed or owed of late. */
public final class NeededStop {
    public static final int NONE = -1, UNKNOWN = -2, OUTSIDE = -3, NOT = -4, FULL = -5;

    private static final int TRAMS = 2, PEOPLE = 8, KINDS = 3, MINUTES = 60;
    private static final int LEAST_PLACES = 2, MOST_PLACES = 12;
    private static final int ALL_KINDS = 7, MOST_SPAN = 30, MOST_SEATS = 6, MOST_FARE = 99;
    private static final int MOST_MOODS = 24, MOST_FEIGNED = 2;
    // Feigned moods stand behind the told ones, so every row of moods has room for both.
    private static final int MOOD_ROOM = MOST_MOODS + MOST_FEIGNED;
    private static final int MOST_BYTES = 200, MOST_LINES = 10, MOST_DIGITS = 2;
    private static final int MOST_SEEN = 8, KEEPS = 2;
    private static final int UP = 0, DOWN = 1;
    private static final int MOST_SEED = 9999, SEED_FACTOR = 16807, SEED_MODULUS = 65521;

    private final Text text = new Text();
    private final Told told = new Told();
    private final Reader reader = new Reader(text, told);
    private final Day today = new Day(told);
    private final Day foretold = new Day(told);
    private final Day[] kept = new Day[KEEPS];
    private final boolean[] isKept = new boolean[KEEPS];
    private final Feigning feigning = new Feigning(told);
    private final ReadBack readBack = new ReadBack(foretold);

    public NeededStop() {
        for (int k = 0; k < KEEPS; k++) {
            kept[k] = new Day(told);
        }
        today.begin(told.kinds, told.span);
    }

    // ---- what is told

    public int write(long bytes, int n) {
        if (n < 1 || n > 8) {
            return OUTSIDE;
        }
        if (text.size + n > MOST_BYTES) {
            return FULL;
        }
        for (int i = 0; i < n; i++) {
            text.append((int) (bytes >> (8 * i)) & 255);
        }
        return text.size;
    }

    public int erase() {
        int had = text.size;
        text.size = 0;
        return had;
    }

    public int fault() {
        reader.readLines();
        return reader.fault;
    }

    public int rail() {
        reader.readLines();
        if (reader.fault != NONE) {
            return NOT;
        }
        told.copyFrom(reader.plan);
        text.size = 0;
        today.begin(told.kinds, told.span);
        readBack.clear();
        dropWhatDependsOnMoods();
        return reader.lines;
    }

    public int mood(int mood, int what) {
        if (mood < 0 || mood >= told.moods) {
            return UNKNOWN;
        }
        switch (what) {
            case 0: return told.whose[mood];
            case 1: return told.kind[mood];
            case 2: return told.minute[mood];
            case 3: return today.feltAt[mood];
            case 4: return today.spent >> mood & 1;
            default: return OUTSIDE;
        }
    }

    public int drawn(int z, int n) {
        if (z < 1 || z > MOST_SEED || n < 1 || n > MOST_MOODS) {
            return OUTSIDE;
        }
        if (today.gone > 0 || told.people == 0) {
            return NOT;
        }
        if (told.moods + n > MOST_MOODS) {
            return FULL;
        }
        int x = z;
        for (int i = 0; i < n; i++) {
            x = SEED_FACTOR * x % SEED_MODULUS;
            told.addMood(told.toldPerson(x), x / 8 % KINDS, x / 32 % MINUTES);
        }
        dropWhatDependsOnMoods();
        return told.moods;
    }

    // ---- a day

    public int go(int n) {
        if (n < 1 || n > MINUTES) {
            return OUTSIDE;
        }
        today.runTo(Math.min(MINUTES, today.gone + n));
        return today.gone;
    }

    public int tram(int tram, int what) {
        if (!told.isTram(tram)) {
            return UNKNOWN;
        }
        switch (what) {
            case 0: return today.tramAt[tram];
            case 1: return today.way[tram];
            case 2: return today.aboard[tram];
            case 3: return today.halts.ofTram(tram);
            default: return OUTSIDE;
        }
    }

    public int person(int person, int what) {
        if (!told.isPerson(person)) {
            return UNKNOWN;
        }
        switch (what) {
            case 0: return today.placeOf(person);
            case 1: return today.tramOf(person);
            case 2: return today.homed[person];
            case 3: return today.owed[person];
            case 4: return told.home[person];
            default: return OUTSIDE;
        }
    }

    public int halt(int i, int what) {
        if (i < 0 || what < 0 || what > 4) {
            return OUTSIDE;
        }
        if (i >= today.halts.size) {
            return NONE;
        }
        switch (what) {
            case 0: return today.halts.tram[i];
            case 1: return today.halts.place[i];
            case 2: return today.halts.minute[i];
            case 3: return today.halts.mood[i];
            default: return told.whoseMood(today.halts.mood[i]);
        }
    }

    public int keep(int k) {
        if (k < 0 || k >= KEEPS) {
            return UNKNOWN;
        }
        kept[k].copyFrom(today);
        isKept[k] = true;
        return today.gone;
    }

    public int back(int k) {
        if (k < 0 || k >= KEEPS) {
            return UNKNOWN;
        }
        if (!isKept[k]) {
            return NOT;
        }
        today.copyFrom(kept[k]);
        return today.gone;
    }

    // ---- foretold

    public int home(int person) {
        if (!told.isPerson(person)) {
            return UNKNOWN;
        }
        foretellDay(told.kinds);
        return foretold.homed[person];
    }

    public int feigned(int person, int n, int what) {
        if (!told.isPerson(person)) {
            return UNKNOWN;
        }
        if (n < 0 || n > MOST_FEIGNED || what < 0 || what > 3) {
            return OUTSIDE;
        }
        feigning.search(person, n);
        switch (what) {
            case 0: return feigning.homed;
            case 1: return feigning.used;
            case 2: return feigning.first;
            default: return feigning.second;
        }
    }

    public int law(int what) {
        if (what < 0 || what > 1) {
            return OUTSIDE;
        }
        int best = NONE;
        int least = 0;
        for (int kinds = 0; kinds <= ALL_KINDS; kinds++) {
            foretellDay(kinds);
            int late = foretold.lateOfAll();
            if (best == NONE || late < least) {
                best = kinds;
                least = late;
            }
        }
        return what == 0 ? best : least;
    }

    public int worn(int place) {
        if (!told.isPlace(place)) {
            return UNKNOWN;
        }
        foretellDay(told.kinds);
        return foretold.halts.atPlace(place);
    }

    public int dry() {
        foretellDay(told.kinds);
        int dry = 0;
        for (int place = 0; place < told.places; place++) {
            if (foretold.halts.atPlace(place) == 0) {
                dry |= 1 << place;
            }
        }
        return dry;
    }

    public int last(int what) {
        if (what < 0 || what > 2) {
            return OUTSIDE;
        }
        foretellDay(told.kinds);
        int last = NONE;
        int lastLate = 0;
        int lastFolk = 1;
        for (int place = 0; place < told.places; place++) {
            int folk = told.folkOf(place);
            int late = foretold.lateOf(place);
            // Means are compared crosswise, so that nothing is lost by cutting.
            if (folk > 0 && (last == NONE || late * lastFolk > lastLate * folk)) {
                last = place;
                lastLate = late;
                lastFolk = folk;
            }
        }
        if (last == NONE || what == 0) {
            return last;
        }
        return lowestPart(lastLate, lastFolk, what - 1);
    }

    public int fares() {
        foretellDay(told.kinds);
        int all = 0;
        for (int person = 0; person < PEOPLE; person++) {
            all += foretold.owed[person];
        }
        return all;
    }

    // ---- read back

    public int seen(int place, int minute) {
        if (!told.isPlace(place)) {
            return UNKNOWN;
        }
        if (minute < 0 || minute >= MINUTES) {
            return OUTSIDE;
        }
        if (readBack.size >= MOST_SEEN) {
            return FULL;
        }
        readBack.add(place, minute);
        return readBack.size;
    }

    public int forget() {
        int had = readBack.size;
        readBack.clear();
        return had;
    }

    public int read(int what) {
        if (what < 0 || what > 2) {
            return OUTSIDE;
        }
        readBack.findLaws();
        switch (what) {
            case 0: return readBack.laws;
            case 1: return readBack.firstKinds;
            default: return readBack.firstSpan;
        }
    }

    public int odds(int kind, int part) {
        if (kind < 0 || kind >= KINDS || part < 0 || part > 1) {
            return OUTSIDE;
        }
        readBack.findLaws();
        if (readBack.laws == 0) {
            return NOT;
        }
        return lowestPart(readBack.lawsWith[kind], readBack.laws, part);
    }

    public int count(int what) {
        switch (what) {
            case 0: return told.places;
            case 1: return told.kinds;
            case 2: return told.span;
            case 3: return told.seats;
            case 4: return told.fare;
            case 5: return told.trams;
            case 6: return told.people;
            case 7: return told.moods;
            case 8: return today.gone;
            case 9: return today.halts.size;
            case 10: return readBack.size;
            case 11: return text.size;
            default: return OUTSIDE;
        }
    }

    private void dropWhatDependsOnMoods() {
        for (int k = 0; k < KEEPS; k++) {
            isKept[k] = false;
        }
        feigning.known = false;
        readBack.known = false;
    }

    private void foretellDay(int kinds) {
        foretold.begin(kinds, told.span);
        foretold.runTo(MINUTES);
    }

    private static int lowestPart(int above, int below, int part) {
        int divisor = commonDivisor(above, below);
        int whole = part == 0 ? above : below;
        return divisor == 0 ? whole : whole / divisor;
    }

    private static int commonDivisor(int a, int b) {
        int greater = a;
        int lesser = b;
        // Euclid's steps on numbers of an int are fewer than fifty.
        for (int i = 0; i < 64 && lesser != 0; i++) {
            int rest = greater % lesser;
            greater = lesser;
            lesser = rest;
        }
        return greater;
    }

    /** The bytes that have been written. */
    private static final class Text {
        final int[] bytes = new int[MOST_BYTES];
        int size;

        void append(int value) {
            if (size < MOST_BYTES) {
                bytes[size] = value;
                size++;
            }
        }

        // Behind the last byte stands a sign that no byte is, so that rows end there.
        int signAt(int i) {
            return i >= 0 && i < size && i < MOST_BYTES ? bytes[i] : NONE;
        }

        boolean spells(String word, int from, int to) {
            if (to - from != word.length()) {
                return false;
            }
            for (int i = 0; i < word.length(); i++) {
                if (signAt(from + i) != word.charAt(i)) {
                    return false;
                }
            }
            return true;
        }
    }

    /** What the lines have told: the rail, the nose, trams, people and moods. */
    private static final class Told {
        int places = 6;
        int kinds = ALL_KINDS;
        int span = 10;
        int seats = 4;
        int fare = 1;
        int trams;
        final int[] tramPlace = new int[TRAMS];
        final int[] tramMinute = new int[TRAMS];
        final int[] tramWay = new int[TRAMS];
        int people;
        final int[] begin = new int[PEOPLE];
        final int[] home = new int[PEOPLE];
        int moods;
        final int[] whose = new int[MOOD_ROOM];
        final int[] kind = new int[MOOD_ROOM];
        final int[] minute = new int[MOOD_ROOM];
        // The moods of each minute by bits, since most minutes of most days have none.
        final int[] moodsOf = new int[MINUTES];

        void copyFrom(Told other) {
            places = other.places;
            kinds = other.kinds;
            span = other.span;
            seats = other.seats;
            fare = other.fare;
            trams = other.trams;
            System.arraycopy(other.tramPlace, 0, tramPlace, 0, TRAMS);
            System.arraycopy(other.tramMinute, 0, tramMinute, 0, TRAMS);
            System.arraycopy(other.tramWay, 0, tramWay, 0, TRAMS);
            people = other.people;
            System.arraycopy(other.begin, 0, begin, 0, PEOPLE);
            System.arraycopy(other.home, 0, home, 0, PEOPLE);
            moods = other.moods;
            System.arraycopy(other.whose, 0, whose, 0, MOOD_ROOM);
            System.arraycopy(other.kind, 0, kind, 0, MOOD_ROOM);
            System.arraycopy(other.minute, 0, minute, 0, MOOD_ROOM);
            System.arraycopy(other.moodsOf, 0, moodsOf, 0, MINUTES);
        }

        boolean isPlace(int place) {
            return place >= 0 && place < places && place < MOST_PLACES;
        }

        boolean isTram(int tram) {
            return tram >= 0 && tram < TRAMS && (trams >> tram & 1) == 1;
        }

        boolean isPerson(int person) {
            return person >= 0 && person < PEOPLE && (people >> person & 1) == 1;
        }

        void layRail(int length) {
            places = length;
            trams = 0;
            people = 0;
            clearMoods();
        }

        void putTram(int tram, int place, int inMinute, int onWay) {
            if (tram >= 0 && tram < TRAMS) {
                trams |= 1 << tram;
                tramPlace[tram] = place;
                tramMinute[tram] = inMinute;
                tramWay[tram] = onWay;
            }
        }

        void putPerson(int person, int place, int homePlace) {
            if (person >= 0 && person < PEOPLE) {
                people |= 1 << person;
                begin[person] = place;
                home[person] = homePlace;
            }
        }

        void addMood(int person, int ofKind, int inMinute) {
            if (moods < MOOD_ROOM && inMinute >= 0 && inMinute < MINUTES) {
                whose[moods] = person;
                kind[moods] = ofKind;
                minute[moods] = inMinute;
                moodsOf[inMinute] |= 1 << moods;
                moods++;
            }
        }

        void dropLastMood() {
            if (moods > 0) {
                moods--;
                moodsOf[minute[moods]] &= ~(1 << moods);
            }
        }

        void clearMoods() {
            moods = 0;
            Arrays.fill(moodsOf, 0);
        }

        int whoseMood(int mood) {
            return mood >= 0 && mood < moods ? whose[mood] : NONE;
        }

        int leastKind() {
            for (int k = 0; k < KINDS; k++) {
                if ((kinds >> k & 1) == 1) {
                    return k;
                }
            }
            return 0;
        }

        int toldPerson(int drawn) {
            int number = Integer.bitCount(people);
            int left = number == 0 ? 0 : drawn % number;
            for (int person = 0; person < PEOPLE; person++) {
                if (isPerson(person)) {
                    if (left == 0) {
                        return person;
                    }
                    left--;
                }
            }
            return NONE;
        }

        int folkOf(int place) {
            int folk = 0;
            for (int person = 0; person < PEOPLE; person++) {
                if (isPerson(person) && begin[person] == place) {
                    folk++;
                }
            }
            return folk;
        }
    }

    /** Reads the text to its first fault, doing its lines on a plan, not on what is told. */
    private static final class Reader {
        private static final int RAIL = 0, NOSE = 1, SEATS = 2, FARE = 3, TRAM = 4, FOLK = 5;
        private static final int TEARS = 6, LAUGHTER = 7, DEBT = 8, CALM = 9;
        // How many numbers stand behind each of these words.
        private static final int[] NUMBERS = {1, 2, 1, 1, 4, 3, 2, 2, 2, 0};
        private static final int MOST_NUMBERS = 4;

        final Text text;
        final Told told;
        final Told plan = new Told();
        final int[] numbers = new int[MOST_NUMBERS];
        int fault;
        int lines;
        // The token in hand: the bytes from .. to less 1; none at the text's end.
        int from;
        int to;

        Reader(Text text, Told told) {
            this.text = text;
            this.told = told;
        }

        void readLines() {
            plan.copyFrom(told);
            fault = NONE;
            lines = 0;
            to = 0;
            boolean more = true;
            for (int i = 0; i < MOST_LINES && more; i++) {
                takeToken();
                readLine();
                more = fault == NONE && text.signAt(from) == ';';
            }
            // A separator in hand here would begin a line too many.
            if (fault == NONE && from < text.size) {
                fault = from;
            }
        }

        private void readLine() {
            int word = wordInHand();
            if (!canBegin(word)) {
                fault = from;
                return;
            }
            takeToken();
            for (int i = 0; i < NUMBERS[word] && i < MOST_NUMBERS; i++) {
                numbers[i] = numberInHand();
                if (!canStand(word, i)) {
                    fault = from;
                    return;
                }
                takeToken();
            }
            doLine(word);
            lines++;
        }

        private void takeToken() {
            from = to;
            for (int i = 0; i < MOST_BYTES && text.signAt(from) == ' '; i++) {
                from++;
            }
            to = from;
            if (from < text.size) {
                to++;
            }
            if (isLetter(text.signAt(from))) {
                for (int i = 0; i < MOST_BYTES && isLetter(text.signAt(to)); i++) {
                    to++;
                }
            } else if (isDigit(text.signAt(from))) {
                for (int i = 0; i < MOST_BYTES && isDigit(text.signAt(to)); i++) {
                    to++;
                }
            }
        }

        private static boolean isLetter(int sign) {
            return sign >= 'a' && sign <= 'z';
        }

        private static boolean isDigit(int sign) {
            return sign >= '0' && sign <= '9';
        }

        private int wordInHand() {
            if (isWord("rail")) { return RAIL; }
            if (isWord("nose")) { return NOSE; }
            if (isWord("seats")) { return SEATS; }
            if (isWord("fare")) { return FARE; }
            if (isWord("tram")) { return TRAM; }
            if (isWord("folk")) { return FOLK; }
            if (isWord("tears")) { return TEARS; }
            if (isWord("laughter")) { return LAUGHTER; }
            if (isWord("debt")) { return DEBT; }
            return isWord("calm") ? CALM : NONE;
        }

        private boolean isWord(String word) {
            return text.spells(word, from, to);
        }

        private int numberInHand() {
            if (!isDigit(text.signAt(from)) || to - from > MOST_DIGITS) {
                return NONE;
            }
            int number = 0;
            for (int i = from; i < to; i++) {
                number = number * 10 + text.signAt(i) - '0';
            }
            return number;
        }

        private boolean canBegin(int word) {
            boolean isMood = word == TEARS || word == LAUGHTER || word == DEBT;
            return word >= 0 && word < NUMBERS.length && (!isMood || plan.moods < MOST_MOODS);
        }

        private boolean canStand(int word, int i) {
            int number = numbers[i];
            switch (word) {
                case RAIL: return isWithin(number, LEAST_PLACES, MOST_PLACES);
                case NOSE: return i == 0 ? isWithin(number, 0, ALL_KINDS) : isWithin(number, 1, MOST_SPAN);
                case SEATS: return isWithin(number, 1, MOST_SEATS);
                case FARE: return isWithin(number, 0, MOST_FARE);
                case TRAM: return canStandInTram(number, i);
                case FOLK: return canStandInFolk(number, i);
                default: return i == 0 ? plan.isPerson(number) : isWithin(number, 0, MINUTES - 1);
            }
        }

        private boolean canStandInTram(int number, int i) {
            switch (i) {
                case 0: return isWithin(number, 0, TRAMS - 1);
                case 1: return plan.isPlace(number);
                case 2: return isWithin(number, 0, MINUTES - 1);
                default: return isWithin(number, UP, DOWN);
            }
        }

        private boolean canStandInFolk(int number, int i) {
            switch (i) {
                case 0: return isWithin(number, 0, PEOPLE - 1);
                case 1: return plan.isPlace(number);
                default: return plan.isPlace(number) && number != numbers[1];
            }
        }

        private static boolean isWithin(int number, int least, int most) {
            return number >= least && number <= most;
        }

        private void doLine(int word) {
            switch (word) {
                case RAIL: plan.layRail(numbers[0]); break;
                case NOSE: plan.kinds = numbers[0]; plan.span = numbers[1]; break;
                case SEATS: plan.seats = numbers[0]; break;
                case FARE: plan.fare = numbers[0]; break;
                case TRAM: plan.putTram(numbers[0], numbers[1], numbers[2], numbers[3]); break;
                case FOLK: plan.putPerson(numbers[0], numbers[1], numbers[2]); break;
                case CALM: plan.clearMoods(); break;
                default: plan.addMood(numbers[0], word - TEARS, numbers[1]); break;
            }
        }
    }

    /** The halts of a day in their order; each spends a mood, so there is room for all. */
    private static final class Halts {
        final int[] tram = new int[MOOD_ROOM];
        final int[] place = new int[MOOD_ROOM];
        final int[] minute = new int[MOOD_ROOM];
        final int[] mood = new int[MOOD_ROOM];
        int size;

        void add(int ofTram, int atPlace, int inMinute, int byMood) {
            if (size < MOOD_ROOM) {
                tram[size] = ofTram;
                place[size] = atPlace;
                minute[size] = inMinute;
                mood[size] = byMood;
                size++;
            }
        }

        void copyFrom(Halts other) {
            size = other.size;
            System.arraycopy(other.tram, 0, tram, 0, MOOD_ROOM);
            System.arraycopy(other.place, 0, place, 0, MOOD_ROOM);
            System.arraycopy(other.minute, 0, minute, 0, MOOD_ROOM);
            System.arraycopy(other.mood, 0, mood, 0, MOOD_ROOM);
        }

        int ofTram(int which) {
            int number = 0;
            for (int i = 0; i < size; i++) {
                if (tram[i] == which) {
                    number++;
                }
            }
            return number;
        }

        int atPlace(int where) {
            int number = 0;
            for (int i = 0; i < size; i++) {
                if (place[i] == where) {
                    number++;
                }
            }
            return number;
        }

        boolean has(int where, int when) {
            for (int i = 0; i < size; i++) {
                if (place[i] == where && minute[i] == when) {
                    return true;
                }
            }
            return false;
        }
    }

    /** A day by a law, minute by minute, of all that is told. */
    private static final class Day {
        final Told told;
        int kinds;
        int span;
        int gone;
        final int[] tramAt = new int[TRAMS];
        final int[] way = new int[TRAMS];
        final int[] aboard = new int[TRAMS];
        int halted;
        final int[] homed = new int[PEOPLE];
        final int[] owed = new int[PEOPLE];
        final int[] feltAt = new int[MOOD_ROOM];
        final int[] causesAt = new int[MOST_PLACES];
        // The causes, by bits, that can still halt a tram: of the law's kinds, not spent, not stale.
        int live;
        int spent;
        final Halts halts = new Halts();

        Day(Told told) {
            this.told = told;
        }

        void begin(int lawKinds, int lawSpan) {
            kinds = lawKinds;
            span = lawSpan;
            gone = 0;
            for (int k = 0; k < TRAMS; k++) {
                tramAt[k] = told.tramPlace[k];
                way[k] = told.tramWay[k];
                aboard[k] = 0;
            }
            halted = 0;
            Arrays.fill(homed, NONE);
            Arrays.fill(owed, 0);
            Arrays.fill(feltAt, NONE);
            Arrays.fill(causesAt, 0);
            live = 0;
            spent = 0;
            halts.size = 0;
        }

        void copyFrom(Day other) {
            kinds = other.kinds;
            span = other.span;
            gone = other.gone;
            System.arraycopy(other.tramAt, 0, tramAt, 0, TRAMS);
            System.arraycopy(other.way, 0, way, 0, TRAMS);
            System.arraycopy(other.aboard, 0, aboard, 0, TRAMS);
            halted = other.halted;
            System.arraycopy(other.homed, 0, homed, 0, PEOPLE);
            System.arraycopy(other.owed, 0, owed, 0, PEOPLE);
            System.arraycopy(other.feltAt, 0, feltAt, 0, MOOD_ROOM);
            System.arraycopy(other.causesAt, 0, causesAt, 0, MOST_PLACES);
            live = other.live;
            spent = other.spent;
            halts.copyFrom(other.halts);
        }

        void runTo(int minute) {
            for (int t = gone; t < minute; t++) {
                passMinute();
            }
        }

        void passMinute() {
            if (gone >= MINUTES) {
                return;
            }
            dropStaleCauses();
            feelMoods();
            for (int k = 0; k < TRAMS; k++) {
                if (told.isTram(k) && told.tramMinute[k] <= gone) {
                    runTram(k);
                }
            }
            gone++;
        }

        private void dropStaleCauses() {
            if (span >= 0 && gone >= span) {
                live &= ~told.moodsOf[gone - span];
            }
        }

        private void feelMoods() {
            int now = told.moodsOf[gone];
            if (now == 0) {
                return;
            }
            for (int m = 0; m < told.moods; m++) {
                if ((now >> m & 1) == 1) {
                    feelMood(m, placeOf(told.whose[m]));
                }
            }
        }

        private void feelMood(int mood, int place) {
            if (!told.isPlace(place)) {
                return;
            }
            feltAt[mood] = place;
            causesAt[place] |= 1 << mood;
            if ((kinds >> told.kind[mood] & 1) == 1) {
                live |= 1 << mood;
            }
        }

        private void runTram(int tram) {
            int cause = (halted >> tram & 1) == 1 ? NONE : eldestCause(tramAt[tram]);
            if (cause == NONE) {
                moveOn(tram);
                return;
            }
            spent |= 1 << cause;
            live &= ~(1 << cause);
            halted |= 1 << tram;
            halts.add(tram, tramAt[tram], gone, cause);
            letOff(tram);
            letOn(tram);
        }

        private int eldestCause(int place) {
            int here = told.isPlace(place) ? causesAt[place] & live : 0;
            if (here == 0) {
                return NONE;
            }
            int eldest = NONE;
            for (int m = 0; m < told.moods; m++) {
                boolean isCause = (here >> m & 1) == 1;
                if (isCause && (eldest == NONE || told.minute[m] < told.minute[eldest])) {
                    eldest = m;
                }
            }
            return eldest;
        }

        private void letOff(int tram) {
            for (int person = 0; person < PEOPLE; person++) {
                boolean isAboard = (aboard[tram] >> person & 1) == 1;
                if (isAboard && told.home[person] == tramAt[tram]) {
                    aboard[tram] &= ~(1 << person);
                    homed[person] = gone;
                }
            }
        }

        private void letOn(int tram) {
            int seats = told.seats - Integer.bitCount(aboard[tram]);
            for (int person = 0; person < PEOPLE && seats > 0; person++) {
                boolean waits = told.isPerson(person) && homed[person] == NONE && tramOf(person) == NONE;
                if (waits && told.begin[person] == tramAt[tram]) {
                    aboard[tram] |= 1 << person;
                    seats--;
                }
            }
        }

        private void moveOn(int tram) {
            if (tramAt[tram] <= 0) {
                way[tram] = UP;
            } else if (tramAt[tram] >= told.places - 1) {
                way[tram] = DOWN;
            }
            tramAt[tram] += way[tram] == UP ? 1 : -1;
            halted &= ~(1 << tram);
            if (aboard[tram] == 0) {
                return;
            }
            for (int person = 0; person < PEOPLE; person++) {
                if ((aboard[tram] >> person & 1) == 1) {
                    owed[person] += told.fare;
                }
            }
        }

        int tramOf(int person) {
            for (int k = 0; k < TRAMS; k++) {
                if ((aboard[k] >> person & 1) == 1) {
                    return k;
                }
            }
            return NONE;
        }

        int placeOf(int person) {
            if (!told.isPerson(person)) {
                return NONE;
            }
            int tram = tramOf(person);
            if (tram != NONE) {
                return tramAt[tram];
            }
            return homed[person] == NONE ? told.begin[person] : told.home[person];
        }

        private int lateness(int person) {
            return homed[person] == NONE ? MINUTES : homed[person];
        }

        int lateOf(int place) {
            int late = 0;
            for (int person = 0; person < PEOPLE; person++) {
                if (told.isPerson(person) && told.begin[person] == place) {
                    late += lateness(person);
                }
            }
            return late;
        }

        int lateOfAll() {
            int late = 0;
            for (int person = 0; person < PEOPLE; person++) {
                if (told.isPerson(person)) {
                    late += lateness(person);
                }
            }
            return late;
        }
    }

    /** The moods by which one is home soonest, if it feigns them. */
    private static final class Feigning {
        final Told told;
        final Told plan = new Told();
        // Days that share their first minutes are run once: none, one and two feigned.
        final Day plain = new Day(plan);
        final Day once = new Day(plan);
        final Day twice = new Day(plan);
        boolean known;
        int person;
        int most;
        // The first minute that is too late to be better than what was found.
        int limit;
        int homed;
        int used;
        int first;
        int second;

        Feigning(Told told) {
            this.told = told;
        }

        void search(int ofPerson, int atMost) {
            if (known && person == ofPerson && most == atMost) {
                return;
            }
            known = true;
            person = ofPerson;
            most = atMost;
            plan.copyFrom(told);
            limit = MINUTES;
            homed = NONE;
            used = NONE;
            first = NONE;
            second = NONE;
            tryNone();
            if (most >= 1) {
                tryOne();
            }
            if (most >= 2) {
                tryTwo();
            }
        }

        private void tryNone() {
            plain.begin(plan.kinds, plan.span);
            take(plain, 0, NONE, NONE);
        }

        private void tryOne() {
            plain.begin(plan.kinds, plan.span);
            for (int minute = 0; minute < limit; minute++) {
                plan.addMood(person, plan.leastKind(), minute);
                once.copyFrom(plain);
                take(once, 1, minute, NONE);
                plan.dropLastMood();
                plain.passMinute();
            }
        }

        private void tryTwo() {
            plain.begin(plan.kinds, plan.span);
            for (int one = 0; one < limit; one++) {
                plan.addMood(person, plan.leastKind(), one);
                once.copyFrom(plain);
                once.passMinute();
                for (int two = one + 1; two < limit && once.homed[person] == NONE; two++) {
                    plan.addMood(person, plan.leastKind(), two);
                    twice.copyFrom(once);
                    take(twice, 2, one, two);
                    plan.dropLastMood();
                    once.passMinute();
                }
                plan.dropLastMood();
                plain.passMinute();
            }
        }

        // Fewer moods and earlier minutes are tried first, so only a sooner home is taken.
        private void take(Day day, int moods, int one, int two) {
            for (int t = day.gone; t < limit && day.homed[person] == NONE; t++) {
                day.passMinute();
            }
            int soonest = day.homed[person];
            if (soonest != NONE && soonest < limit) {
                limit = soonest;
                homed = soonest;
                used = moods;
                first = one;
                second = two;
            }
        }
    }

    /** The laws by which trams halt where and when halts were seen. */
    private static final class ReadBack {
        final Day day;
        final int[] place = new int[MOST_SEEN];
        final int[] minute = new int[MOST_SEEN];
        int size;
        boolean known;
        int laws;
        int firstKinds;
        int firstSpan;
        final int[] lawsWith = new int[KINDS];

        ReadBack(Day day) {
            this.day = day;
        }

        void add(int atPlace, int inMinute) {
            if (size < MOST_SEEN) {
                place[size] = atPlace;
                minute[size] = inMinute;
                size++;
                known = false;
            }
        }

        void clear() {
            size = 0;
            known = false;
        }

        void findLaws() {
            if (known) {
                return;
            }
            known = true;
            laws = 0;
            firstKinds = NONE;
            firstSpan = NONE;
            Arrays.fill(lawsWith, 0);
            int end = lastSeen() + 1;
            for (int kinds = 1; kinds <= ALL_KINDS; kinds++) {
                for (int span = 1; span <= MOST_SPAN; span++) {
                    if (fits(kinds, span, end)) {
                        addLaw(kinds, span);
                    }
                }
            }
        }

        private int lastSeen() {
            int last = NONE;
            for (int i = 0; i < size; i++) {
                last = Math.max(last, minute[i]);
            }
            return last;
        }

        private boolean fits(int kinds, int span, int end) {
            day.begin(kinds, span);
            day.runTo(end);
            for (int i = 0; i < size; i++) {
                if (!day.halts.has(place[i], minute[i])) {
                    return false;
                }
            }
            return true;
        }

        private void addLaw(int kinds, int span) {
            if (laws == 0) {
                firstKinds = kinds;
                firstSpan = span;
            }
            laws++;
            for (int k = 0; k < KINDS; k++) {
                lawsWith[k] += kinds >> k & 1;
            }
        }
    }
}
