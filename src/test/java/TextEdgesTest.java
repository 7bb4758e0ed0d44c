import java.util.ArrayList;
import java.util.List;

/** The edges of what is told: promises 1 to 7, and THE TEXT with the bounds of every number. */
public final class TextEdgesTest extends Edges {
    private record Line(String word, int[][] bounds, int... usual) { }

    // The bounds on a rail of six places with all people told; usual numbers leave HOME unlike the begin.
    private static final Line[] LINES = {
        new Line("rail", new int[][] {{2, 12}}, 7),
        new Line("nose", new int[][] {{0, 7}, {1, 30}}, 3, 11),
        new Line("seats", new int[][] {{1, 6}}, 3),
        new Line("fare", new int[][] {{0, 99}}, 42),
        new Line("tram", new int[][] {{0, 1}, {0, 5}, {0, 59}, {0, 1}}, 1, 2, 33, 1),
        new Line("folk", new int[][] {{0, 7}, {0, 5}, {0, 5}}, 4, 3, 2),
        new Line("tears", new int[][] {{0, 7}, {0, 59}}, 4, 33),
        new Line("laughter", new int[][] {{0, 7}, {0, 59}}, 4, 33),
        new Line("debt", new int[][] {{0, 7}, {0, 59}}, 4, 33),
        new Line("calm", new int[][] {}),
    };

    public static void main(String[] args) throws IllegalAccessException {
        new TextEdgesTest().runAll();
    }

    // ---- Promise 1: A new object

    void newObjectHasSixPlaces() {
        NeededStop stop = new NeededStop();
        due("count(0)", stop.count(0), 6);
        dueRow("worn", stop::worn, 0, 0, 0, 0, 0, 0, UNKNOWN);
        due("dry()", stop.dry(), 63);
        due("seen(5, 0)", stop.seen(5, 0), 1);
        due("seen(6, 0)", stop.seen(6, 0), UNKNOWN);
        dueFault("tram 0 5 0 0", NONE);
        dueFault("tram 0 6 0 0", 7);
    }

    void newObjectHasNobody() {
        NeededStop stop = new NeededStop();
        due("count(6)", stop.count(6), 0);
        for (int p = 0; p < 8; p++) {
            due("person", stop.person(p, 0), UNKNOWN);
            due("home", stop.home(p), UNKNOWN);
            due("feigned", stop.feigned(p, 0, 0), UNKNOWN);
            dueFault(stop, "tears " + p + " 0", 6);
        }
        due("last(0)", stop.last(0), NONE);
        due("law(1)", stop.law(1), 0);
        due("drawn", stop.drawn(1, 1), NOT);
    }

    void newObjectHasNoTrams() {
        NeededStop stop = new NeededStop();
        due("count(5)", stop.count(5), 0);
        due("tram(0, 0)", stop.tram(0, 0), UNKNOWN);
        due("tram(1, 0)", stop.tram(1, 0), UNKNOWN);
        stop.go(60);
        due("halts", stop.count(9), 0);
    }

    void newObjectHasNoMoods() {
        NeededStop stop = new NeededStop();
        due("count(7)", stop.count(7), 0);
        due("mood(0, 0)", stop.mood(0, 0), UNKNOWN);
        due("no halts", stop.halt(0, 0), NONE);
    }

    void newObjectHasTheFirstNoseSeatsAndFare() {
        dueRow("count", new NeededStop()::count, 6, 7, 10, 4, 1, 0, 0, 0, 0, 0, 0, 0, OUTSIDE);
        for (String word : MOOD_WORDS) {
            due("all KINDS", Calls.told("tram 0 1 0 0;folk 0 1 3;" + word + " 0 0").worn(1), 1);
        }
        due("SPAN 10", Calls.told("tram 0 1 9 0;folk 0 1 3;tears 0 0").worn(1), 1);
        due("not 11", Calls.told("tram 0 1 10 0;folk 0 1 3;tears 0 0").worn(1), 0);
        due("four SEATS", gone(1, ALL_FOLK, "tram 0 1 0 0;tears 7 0").tram(0, 2), 15);
        due("FARE 1", gone(2, "tram 0 1 0 0;folk 0 1 3;tears 0 0").person(0, 3), 1);
    }

    void newObjectHasNothingKeptOrSeenOrWritten() {
        NeededStop stop = new NeededStop();
        due("back(0)", stop.back(0), NOT);
        due("back(1)", stop.back(1), NOT);
        due("forget()", stop.forget(), 0);
        due("erase()", stop.erase(), 0);
        due("read(0)", stop.read(0), 210);
    }

    void objectsAreApart() {
        NeededStop one = new NeededStop();
        NeededStop other = Calls.told("rail 2;nose 0 1;fare 9;folk 0 0 1");
        other.write(32, 1);
        other.seen(0, 0);
        other.go(5);
        dueRow("count", one::count, 6, 7, 10, 4, 1, 0, 0, 0, 0, 0, 0, 0);
        dueRow("count", other::count, 2, 0, 1, 4, 9, 0, 1, 0, 5, 0, 1, 1);
    }

    // ---- Promise 2: write

    void writeTakesOneToEightBytes() {
        for (int n = 1; n <= 8; n++) {
            due("write " + n, new NeededStop().write(0, n), n);
        }
    }

    void writeOutsideOneToEight() {
        NeededStop stop = new NeededStop();
        dueBeyond("write", n -> stop.write(0, n), 1, 8, OUTSIDE);
        due("no byte came", stop.count(11), 0);
    }

    void writeHasTheLowestByteFirst() {
        NeededStop stop = new NeededStop();
        stop.write('f' | 'a' << 8 | 'r' << 16 | 'e' << 24 | (long) ' ' << 32 | (long) ' ' << 40 | (long) '4' << 48 | (long) '2' << 56, 8);
        due("rail", stop.rail(), 1);
        due("fare", stop.count(4), 42);
    }

    void writeLeavesTheBytesBehindN() {
        NeededStop stop = new NeededStop();
        due("four of eight", stop.write(Calls.packed("calmxxxx"), 4), 4);
        due("fault", stop.fault(), NONE);
        stop.erase();
        due("seven of eight", stop.write(Calls.packed("fare  42"), 7), 7);
        stop.rail();
        due("fare", stop.count(4), 4);
    }

    void writeBytesAreEightBitsWide() {
        for (int i = 0; i < 8; i++) {
            NeededStop stop = new NeededStop();
            stop.write(Calls.packed("    calm") | 128L << (8 * i), 8);
            due("byte " + i + " with its eighth bit", stop.fault(), i < 4 ? i : 4);
        }
        for (int value = 0; value < 256; value++) {
            NeededStop stop = new NeededStop();
            stop.write(value, 1);
            due("the byte " + value, stop.fault(), value == 32 ? 1 : 0);
        }
    }

    void writeAnswersHowManyThereAre() {
        NeededStop stop = new NeededStop();
        int all = 0;
        for (int n = 8; n >= 1; n--) {
            all += n;
            due("write " + n, stop.write(0, n), all);
            due("count(11)", stop.count(11), all);
        }
    }

    void textHasRoomFor200Bytes() {
        NeededStop stop = new NeededStop();
        for (int i = 1; i <= 25; i++) {
            due("write", stop.write(0, 8), 8 * i);
        }
        for (int n = 1; n <= 8; n++) {
            due("write " + n + " more", stop.write(0, n), FULL);
        }
        due("count(11)", stop.count(11), 200);
        stop = new NeededStop();
        for (int i = 1; i <= 200; i++) {
            due("write one", stop.write(0, 1), i);
        }
        due("a 201st", stop.write(0, 1), FULL);
    }

    void textTakesAllOrNoneOfTheBytes() {
        for (int had = 192; had <= 200; had++) {
            NeededStop stop = new NeededStop();
            Calls.writeText(stop, "calm" + " ".repeat(had - 4));
            for (int n = 8; n > 200 - had; n--) {
                due("write " + n + " behind " + had, stop.write(-1, n), FULL);
            }
            due("none came", stop.count(11), had);
            due("nothing changed", stop.fault(), NONE);
            if (had < 200) {
                due("what has room", stop.write(0, 200 - had), 200);
            }
        }
    }

    void writeOutsideComesAheadOfFull() {
        NeededStop stop = new NeededStop();
        Calls.writeText(stop, " ".repeat(200));
        due("write 0", stop.write(0, 0), OUTSIDE);
        due("write 9", stop.write(0, 9), OUTSIDE);
        due("write 8", stop.write(0, 8), FULL);
    }

    // ---- Promise 3: erase

    void eraseAnswersWhatThereWas() {
        NeededStop stop = new NeededStop();
        due("of an empty text", stop.erase(), 0);
        stop.write(0, 1);
        due("of one byte", stop.erase(), 1);
        due("again", stop.erase(), 0);
        Calls.writeText(stop, " ".repeat(200));
        due("of a full text", stop.erase(), 200);
        due("count(11)", stop.count(11), 0);
        due("there is room again", stop.write(0, 8), 8);
    }

    void eraseBeginsTheTextAnew() {
        NeededStop stop = new NeededStop();
        Calls.writeText(stop, "rail 12;folk 9");
        stop.erase();
        due("fault of nothing", stop.fault(), 0);
        Calls.writeText(stop, "calm x");
        due("fault from the first byte on", stop.fault(), 5);
        stop.erase();
        stop.write(Calls.packed("calm"), 4);
        due("no byte is left behind", stop.fault(), NONE);
    }

    void eraseLeavesAllElse() {
        NeededStop stop = gone(3, "rail 4;tram 0 1 0 0;folk 0 1 3;tears 0 0");
        stop.keep(0);
        stop.seen(1, 0);
        stop.write(0, 5);
        stop.erase();
        dueRow("count", stop::count, 4, 7, 10, 4, 1, 1, 1, 1, 3, 1, 1, 0);
        due("back(0)", stop.back(0), 3);
    }

    // ---- Promise 4: fault, and what a FAULT is

    private static NeededStop withAllFolk() {
        return Calls.told(ALL_FOLK);
    }

    // The line with another token in place of its i-th number; nothing from there on, if the token is empty.
    private static String altered(Line line, int i, String token) {
        StringBuilder text = new StringBuilder(line.word);
        for (int j = 0; j < line.usual.length; j++) {
            if (j == i && token.isEmpty()) {
                return text.toString();
            }
            text.append(' ').append(j == i ? token : "" + line.usual[j]);
        }
        return text.toString();
    }

    private static int placeOf(Line line, int i) {
        int place = line.word.length() + 1;
        for (int j = 0; j < i; j++) {
            place += ("" + line.usual[j]).length() + 1;
        }
        return place;
    }

    private void dueNumber(Line line, int i, String token, boolean isFine) {
        dueFault(withAllFolk(), altered(line, i, token), isFine ? NONE : placeOf(line, i));
    }

    void usualLinesHaveNoFault() {
        for (Line line : LINES) {
            dueFault(withAllFolk(), altered(line, -1, "-"), NONE);
        }
    }

    void numbersWithinTheirBounds() {
        for (Line line : LINES) {
            for (int i = 0; i < line.usual.length; i++) {
                for (int x = 0; x < 100; x++) {
                    boolean isLikeBegin = line.word.equals("folk") && x == line.usual[i == 1 ? 2 : 1];
                    if (i == 0 || !isLikeBegin) {
                        dueNumber(line, i, "" + x, x >= line.bounds[i][0] && x <= line.bounds[i][1]);
                    }
                }
            }
        }
    }

    void numbersOfTwoDigitsMayBeginWithNought() {
        for (Line line : LINES) {
            for (int i = 0; i < line.usual.length; i++) {
                int x = line.bounds[i][0];
                dueNumber(line, i, (x < 10 ? "0" : "") + x, true);
            }
        }
    }

    void numbersOfMoreDigitsAreFaults() {
        for (Line line : LINES) {
            for (int i = 0; i < line.usual.length; i++) {
                dueNumber(line, i, "00" + line.bounds[i][0], false);
                dueNumber(line, i, "0" + (10 + line.bounds[i][1]), false);
                dueNumber(line, i, "4294967296", false);
                dueNumber(line, i, "4294967297", false);
                dueNumber(line, i, "0".repeat(100), false);
            }
        }
    }

    void whatIsNoNumberCannotStandForOne() {
        for (Line line : LINES) {
            for (int i = 0; i < line.usual.length; i++) {
                for (String token : new String[] {"x", "calm", ";", "-1", "+1", ".", "A", "/", ":", "\t1", "\u00b2", "a1"}) {
                    dueNumber(line, i, token, false);
                }
            }
        }
    }

    void endsThatComeTooSoonAreFaultsAtTheLength() {
        dueFault("", 0);
        for (Line line : LINES) {
            for (int i = 0; i < line.usual.length; i++) {
                String text = altered(line, i, "");
                dueFault(withAllFolk(), text, text.length());
                dueFault(withAllFolk(), text + "   ", text.length() + 3);
            }
        }
    }

    void tokensBehindALineAreFaults() {
        for (Line line : LINES) {
            String text = altered(line, -1, "-");
            for (String token : new String[] {"1", "calm", ".", ":", "<", "A"}) {
                dueFault(withAllFolk(), text + " " + token, text.length() + 1);
            }
            dueFault(withAllFolk(), text + ";", text.length() + 1);
            dueFault(withAllFolk(), text + "; ", text.length() + 2);
            dueFault(withAllFolk(), text + ";;calm", text.length() + 1);
            dueFault(withAllFolk(), text + " ; calm", NONE);
        }
    }

    void wordsAreWhole() {
        for (Line line : LINES) {
            String numbers = altered(line, -1, "-").substring(line.word.length());
            for (int cut = 1; cut < line.word.length(); cut++) {
                dueFault(withAllFolk(), line.word.substring(0, cut) + numbers, 0);
                dueFault(withAllFolk(), line.word.substring(cut) + numbers, 0);
            }
            for (int i = 0; i < line.word.length(); i++) {
                String other = line.word.substring(0, i) + "y" + line.word.substring(i + 1);
                dueFault(withAllFolk(), other + numbers, 0);
            }
            for (char more : new char[] {'a', 's', 'z'}) {
                dueFault(withAllFolk(), line.word + more + numbers, 0);
                dueFault(withAllFolk(), more + line.word + numbers, 0);
            }
            char first = line.word.charAt(0);
            dueFault(withAllFolk(), (char) (first - 32) + line.word.substring(1) + numbers, 0);
            dueFault(withAllFolk(), first + line.word.substring(1).toUpperCase() + numbers, 0);
        }
        dueFault("rail6", NONE);
        dueFault("6rail", 0);
        dueFault("calm6", 4);
        dueFault("fare 6x", 6);
        dueFault("a".repeat(200), 0);
    }

    void smallLettersAreFromAToZ() {
        dueFault("calm`", 4);
        dueFault("calma", 0);
        dueFault("calmz", 0);
        dueFault("calm{", 4);
        dueFault("calm@", 4);
        dueFault("calmA", 4);
        dueFault("calmZ", 4);
        dueFault("calm[", 4);
    }

    void digitsAreFrom0To9() {
        dueFault("fare 1/", 6);
        dueFault("fare 10", NONE);
        dueFault("fare 19", NONE);
        dueFault("fare 1:", 6);
        dueFault("fare /", 5);
        dueFault("fare 0", NONE);
        dueFault("fare 9", NONE);
        dueFault("fare :", 5);
    }

    void blanksAloneStandBetween() {
        for (int value = 0; value < 256; value++) {
            boolean isLetter = value >= 'a' && value <= 'z';
            boolean isDigit = value >= '0' && value <= '9';
            int want = value == 32 || isDigit ? NONE : isLetter ? 0 : 4;
            dueFault("fare" + (char) value + "3", want);
        }
        dueFault(" ".repeat(194) + "fare 3", NONE);
        dueFault("fare" + " ".repeat(195) + "3", NONE);
        dueFault("fare 3" + " ".repeat(194), NONE);
        dueFault(" ".repeat(200), 200);
    }

    void semicolonsAloneAreBetweenLines() {
        for (int value = 0; value < 256; value++) {
            boolean isLetter = value >= 'a' && value <= 'z';
            int want = value == ';' ? NONE : value == ' ' ? 5 : isLetter ? 0 : 4;
            dueFault("calm" + (char) value + "calm", want);
        }
        dueFault(";", 0);
        dueFault(" ;calm", 1);
    }

    void tenLinesAtMost() {
        for (Line line : LINES) {
            String one = line.word.equals("rail") ? "rail 6" : altered(line, -1, "-");
            dueFault(withAllFolk(), lines(one, 10), NONE);
        }
        dueFault(lines("calm", 11), 49);
        dueFault(lines("calm", 10) + ";", 49);
        dueFault(lines("calm", 10) + "   ;", 52);
        dueFault(lines("calm", 10) + ";x", 49);
        dueFault(lines("calm", 10) + " x", 50);
        dueFault(lines("calm", 9) + ";fare 100", 50);
        dueFault(lines("calm", 9) + ";", 45);
    }

    void longTextsAreReadToTheirEnd() {
        dueFault("calm;" + " ".repeat(189) + "fare 7", NONE);
        dueFault("calm;" + " ".repeat(190) + "fare ", 200);
        dueFault("calm;fare 7" + " ".repeat(188) + ".", 199);
        dueFault("fare " + "7".repeat(195), 5);
        NeededStop stop = new NeededStop();
        tell(stop, "calm;" + " ".repeat(188) + "fare 42");
        due("fare", stop.count(4), 42);
    }

    void theFirstFaultIsTold() {
        dueFault("fare 3;fare 100;seats 9", 12);
        dueFault("x y z", 0);
        dueFault("tram 2 9 99 9", 5);
        dueFault("tram 0 9 99 9", 7);
        dueFault("tram 0 0 99 9", 9);
        dueFault("tram 0 0 0 9", 11);
    }

    void placesAreThoseOfTheRailAhead() {
        for (int l = 2; l <= 12; l++) {
            String rail = "rail " + l + ";";
            int last = l - 1;
            dueFault(rail + "tram 0 " + last + " 0 0", NONE);
            dueFault(rail + "tram 0 " + l + " 0 0", rail.length() + 7);
            dueFault(rail + "folk 0 " + last + " 0", NONE);
            dueFault(rail + "folk 0 " + l + " 0", rail.length() + 7);
            dueFault(rail + "folk 0 0 " + last, NONE);
            dueFault(rail + "folk 0 0 " + l, rail.length() + 9);
            NeededStop stop = Calls.told("rail " + l);
            dueFault(stop, "tram 0 " + last + " 0 0", NONE);
            dueFault(stop, "tram 0 " + l + " 0 0", 7);
        }
        dueFault("tram 0 6 0 0;rail 12", 7);
    }

    void homeIsAnotherPlace() {
        for (int p = 0; p < 6; p++) {
            for (int q = 0; q < 6; q++) {
                dueFault("folk 0 " + p + " " + q, p == q ? 9 : NONE);
            }
        }
        dueFault("folk 0 1 01", 9);
    }

    void moodsAreOfPeopleToldAhead() {
        for (String word : MOOD_WORDS) {
            int at = word.length() + 1;
            dueFault(word + " 0 0", at);
            dueFault(word + " 0 0;folk 0 0 1", at);
            dueFault("folk 0 0 1;" + word + " 0 0", NONE);
            dueFault("folk 0 0 1;" + word + " 1 0", 11 + at);
            dueFault("folk 0 0 1;rail 6;" + word + " 0 0", 18 + at);
            dueFault("folk 0 0 1;calm;" + word + " 0 0", NONE);
            dueFault(Calls.told("folk 7 0 1"), word + " 7 0", NONE);
            dueFault(Calls.told("folk 7 0 1"), word + " 6 0", at);
            dueFault(Calls.told("folk 7 0 1"), "rail 6;" + word + " 7 0", 7 + at);
        }
    }

    void aTwentyFifthMoodCannotStandAtItsWord() {
        for (String word : MOOD_WORDS) {
            NeededStop stop = Calls.told("folk 0 1 2", lines("debt 0 1", 10), lines("tears 0 1", 10), lines("laughter 0 1", 3));
            due("moods", stop.count(7), 23);
            dueFault(stop, word + " 0 1;" + word + " 0 2", word.length() + 5);
            dueFault(stop, word + " 0 1;" + word, word.length() + 5);
            dueFault(stop, word + " 0 1;" + word + " 9 99", word.length() + 5);
            dueFault(stop, word + " 0 1", NONE);
            due("moods", stop.count(7), 24);
            dueFault(stop, word + " 0 1", 0);
            dueFault(stop, word, 0);
            dueFault(stop, "fare 1;" + word + " 0 1", 7);
            dueFault(stop, word + "s 0 1", 0);
            dueFault(stop, "rail 6;" + word + " 0 1", 8 + word.length());
            dueFault(stop, "calm;" + word + " 0 1", NONE);
            due("moods", stop.count(7), 1);
        }
    }

    void drawnMoodsCountForTheTwentyFifth() {
        NeededStop stop = Calls.told("folk 0 1 2");
        stop.drawn(1, 23);
        dueFault(stop, "debt 0 1;debt 0 1", 9);
        stop.drawn(1, 1);
        dueFault(stop, "debt 0 1", 0);
    }

    void faultChangesNothing() {
        NeededStop stop = gone(3, "rail 4;tram 0 1 0 0;folk 0 1 3;tears 0 0");
        stop.keep(0);
        stop.seen(1, 0);
        Calls.writeText(stop, "rail 9;nose 0 1;seats 1;fare 7");
        due("fault()", stop.fault(), NONE);
        due("again", stop.fault(), NONE);
        dueRow("count", stop::count, 4, 7, 10, 4, 1, 1, 1, 1, 3, 1, 1, 30);
        due("back(0)", stop.back(0), 3);
        due("rail()", stop.rail(), 4);
    }

    // ---- Promise 5: rail

    void railAnswersHowManyLines() {
        for (int number = 1; number <= 10; number++) {
            NeededStop stop = new NeededStop();
            Calls.writeText(stop, lines("calm", number));
            due(number + " lines", stop.rail(), number);
        }
    }

    void railEmptiesTheText() {
        NeededStop stop = Calls.told("fare 3");
        due("count(11)", stop.count(11), 0);
        due("erase()", stop.erase(), 0);
        due("rail again", stop.rail(), NOT);
    }

    void railOfAnEmptyTextIsNot() {
        NeededStop stop = new NeededStop();
        due("rail()", stop.rail(), NOT);
        stop.write(32, 1);
        due("rail of a blank", stop.rail(), NOT);
        due("the blank stays", stop.count(11), 1);
    }

    void railOfAFaultDoesNoLine() {
        NeededStop stop = Calls.told("rail 4;tram 0 1 0 0;folk 0 1 3;tears 0 0");
        Calls.writeText(stop, "nose 1 1;seats 1;fare 9;tram 1 2 0 0;folk 1 2 3;debt 0 1;calm;rail 12;rail 13");
        due("rail()", stop.rail(), NOT);
        dueRow("count", stop::count, 4, 7, 10, 4, 1, 1, 1, 1, 0, 0, 0, 77);
        due("the text is as it was", stop.fault(), 75);
    }

    void linesAreDoneInTheirOrder() {
        NeededStop stop = Calls.told("fare 5;fare 6;rail 9;rail 8;folk 0 1 2;folk 0 3 4");
        due("fare", stop.count(4), 6);
        due("places", stop.count(0), 8);
        due("the begin", stop.person(0, 0), 3);
        stop = Calls.told("folk 0 1 2;tears 0 1;calm;debt 0 2");
        due("moods", stop.count(7), 1);
        due("the one behind calm", stop.mood(0, 1), 2);
        due("rail behind folk", Calls.told("folk 0 1 2;rail 6").count(6), 0);
        due("folk behind rail", Calls.told("rail 6;folk 0 1 2").count(6), 1);
    }

    void aRailHasNoTramsPeopleMoods() {
        NeededStop stop = Calls.told("nose 5 20;seats 2;fare 33;tram 0 1 2 0;tram 1 1 2 0;folk 0 1 2;folk 7 1 2;tears 0 1");
        tell(stop, "rail 6");
        dueRow("count", stop::count, 6, 5, 20, 2, 33, 0, 0, 0);
        due("tram(0, 0)", stop.tram(0, 0), UNKNOWN);
        due("person(7, 0)", stop.person(7, 0), UNKNOWN);
        due("mood(0, 0)", stop.mood(0, 0), UNKNOWN);
        tell(stop, "folk 0 4 5;tram 0 4 0 0");
        due("moods do not come again", stop.count(7), 0);
        due("nor halts", stop.dry(), 63);
    }

    void calmHasNoMoods() {
        NeededStop stop = Calls.told("tram 0 1 2 0;folk 0 1 2;tears 0 1;debt 0 2");
        tell(stop, "calm");
        due("moods", stop.count(7), 0);
        due("trams stay", stop.count(5), 1);
        due("people stay", stop.count(6), 1);
        due("no halts", stop.dry(), 63);
        tell(stop, "calm");
        due("none again", stop.count(7), 0);
        tell(stop, "laughter 0 3");
        due("the first is 0 again", stop.mood(0, 1), 1);
        stop.go(2);
        due("not felt when the old one was", stop.mood(0, 3), NONE);
        stop.go(2);
        due("felt in its minute", stop.mood(0, 3), 1);
    }

    void folkToldAnewKeepTheirMoods() {
        NeededStop stop = Calls.told("folk 0 1 2;folk 3 1 2;tears 0 1;debt 3 2");
        tell(stop, "folk 0 4 5");
        due("moods", stop.count(7), 2);
        due("whose", stop.mood(0, 0), 0);
        due("the begin", stop.person(0, 0), 4);
        due("the home", stop.person(0, 4), 5);
        due("the other's begin", stop.person(3, 0), 1);
        stop.go(2);
        due("felt where it is now", stop.mood(0, 3), 4);
    }

    void folkToldAnewLeaveNoCauseWhereTheyWere() {
        NeededStop stop = gone(60, "tram 0 1 0 0;folk 0 1 3;tears 0 0");
        due("a halt where it was", stop.halt(0, 1), 1);
        tell(stop, "folk 0 4 5");
        stop.go(1);
        due("no halt there now", stop.count(9), 0);
        stop.go(59);
        due("one where it is", stop.halt(0, 1), 4);
        due("in the minute in which the tram comes", stop.halt(0, 2), 3);
    }

    void tramsToldAnewBeginAnew() {
        NeededStop stop = Calls.told("tram 0 1 2 0;tram 1 3 0 0");
        tell(stop, "tram 0 4 1 1");
        due("place", stop.tram(0, 0), 4);
        due("way", stop.tram(0, 1), 1);
        stop.go(1);
        due("not begun", stop.tram(0, 0), 4);
        due("the other has", stop.tram(1, 0), 4);
        stop.go(1);
        due("begun in 1", stop.tram(0, 0), 3);
    }

    void numbersAreTakenAsTold() {
        for (int h = 0; h < 2; h++) {
            NeededStop stop = withAllFolk();
            dueMoodsTaken(stop, h);
            dueRow("kinds of moods", mood -> stop.mood(mood, 1), 0, 1, 2);
            tell(stop, altered(LINES[4], 1, h == 0 ? "0" : "5"));
            due("a tram's place", stop.tram(1, 0), h == 0 ? 0 : 5);
            tell(stop, altered(LINES[4], 3, "" + h));
            due("a tram's way", stop.tram(1, 1), h);
            tell(stop, altered(LINES[4], 0, "" + h));
            due("a tram's number", stop.count(5), h == 0 ? 3 : 2);
            tell(stop, altered(LINES[5], 1, h == 0 ? "0" : "5"));
            due("a begin", stop.person(4, 0), h == 0 ? 0 : 5);
            tell(stop, altered(LINES[5], 2, h == 0 ? "0" : "5"));
            due("a home", stop.person(4, 4), h == 0 ? 0 : 5);
            tell(stop, "nose " + 7 * h + " " + (1 + 29 * h) + ";seats " + (1 + 5 * h) + ";fare " + 99 * h);
            dueRow("count", what -> stop.count(1 + what), 7 * h, 1 + 29 * h, 1 + 5 * h, 99 * h);
            tell(stop, "rail " + (2 + 10 * h));
            due("places", stop.count(0), 2 + 10 * h);
        }
    }

    private void dueMoodsTaken(NeededStop stop, int high) {
        for (int i = 0; i < 3; i++) {
            tell(stop, MOOD_WORDS[i] + " " + 7 * high + " " + 59 * high);
            due("whose", stop.mood(i, 0), 7 * high);
            due("minute", stop.mood(i, 2), 59 * high);
        }
    }

    void behindTheLinesItIsMinuteNought() {
        NeededStop stop = gone(60, "rail 4;tram 0 0 0 0;folk 0 1 3;tears 0 1;tears 0 4");
        tell(stop, "calm;fare 2;tears 0 1;tears 0 4");
        due("minutes", stop.count(8), 0);
        due("halts", stop.count(9), 0);
        due("halt(0, 0)", stop.halt(0, 0), NONE);
        due("a minute goes", stop.go(1), 1);
    }

    void behindTheLinesAllAreWhereTheyBegin() {
        NeededStop stop = gone(4, "rail 4;tram 0 0 0 0;folk 0 1 3;tears 0 1;tears 0 4");
        tell(stop, "fare 1");
        due("the tram", stop.tram(0, 0), 0);
        due("its way", stop.tram(0, 1), 0);
        due("nobody aboard", stop.tram(0, 2), 0);
        due("its halts", stop.tram(0, 3), 0);
        dueRow("person", what -> stop.person(0, what), 1, NONE, NONE, 0, 3);
        NeededStop end = gone(60, "rail 4;tram 0 0 0 0;folk 0 1 3;tears 0 1;tears 0 4");
        tell(end, "fare 1");
        dueRow("person", what -> end.person(0, what), 1, NONE, NONE, 0, 3);
    }

    void behindTheLinesNothingIsSpentOrFelt() {
        NeededStop stop = gone(60, "rail 4;tram 0 0 0 0;folk 0 1 3;tears 0 1;tears 0 4");
        tell(stop, "fare 1");
        for (int mood = 0; mood < 2; mood++) {
            due("felt", stop.mood(mood, 3), NONE);
            due("spent", stop.mood(mood, 4), 0);
        }
        stop.go(60);
        due("the day goes as before", stop.person(0, 2), 4);
    }

    void behindTheLinesATramHasNotHaltedThere() {
        NeededStop stop = gone(1, "rail 4;tram 0 1 0 0;folk 0 1 3;tears 0 0");
        tell(stop, "fare 1");
        stop.go(1);
        due("it halts once more", stop.count(9), 1);
    }

    void behindTheLinesNothingIsKept() {
        NeededStop stop = Calls.told("fare 1");
        stop.keep(0);
        stop.keep(1);
        tell(stop, "fare 1");
        due("back(0)", stop.back(0), NOT);
        due("back(1)", stop.back(1), NOT);
    }

    void behindTheLinesNothingIsSeen() {
        NeededStop stop = Calls.told("fare 1");
        stop.seen(0, 0);
        stop.seen(5, 59);
        tell(stop, "fare 1");
        due("count(10)", stop.count(10), 0);
        due("forget()", stop.forget(), 0);
        due("read(0)", stop.read(0), 210);
    }

    // ---- Promise 6: mood

    void moodsAreCountedAsTheyCome() {
        NeededStop stop = Calls.told("folk 2 1 3;folk 5 1 3;debt 5 9;tears 2 50;laughter 5 0");
        stop.drawn(2, 1);
        tell(stop, "debt 2 1");
        dueRow("whose", mood -> stop.mood(mood, 0), 5, 2, 5, 2, 2, UNKNOWN);
        dueRow("kind", mood -> stop.mood(mood, 1), 2, 0, 1, 1, 2, UNKNOWN);
        dueRow("minute", mood -> stop.mood(mood, 2), 9, 50, 0, 30, 1, UNKNOWN);
    }

    void moodsThatAreNotAreUnknown() {
        NeededStop none = new NeededStop();
        dueBeyond("of none", mood -> none.mood(mood, 0), 0, -1, UNKNOWN);
        NeededStop one = Calls.told("folk 0 1 3;debt 0 9");
        dueBeyond("of one", mood -> one.mood(mood, 0), 0, 0, UNKNOWN);
        NeededStop full = Calls.told("folk 0 1 3");
        full.drawn(1, 24);
        due("the last", full.mood(23, 0), 0);
        dueBeyond("of twenty-four", mood -> full.mood(mood, 0), 0, 23, UNKNOWN);
        full.feigned(0, 2, 0);
        dueBeyond("feigned ones are none", mood -> full.mood(mood, 0), 0, 23, UNKNOWN);
    }

    void moodWhatIs0To4() {
        NeededStop stop = Calls.told("folk 0 1 3;debt 0 9");
        dueRow("mood", what -> stop.mood(0, what), 0, 2, 9, NONE, 0, OUTSIDE);
        dueBeyond("mood", what -> stop.mood(0, what), 0, 4, OUTSIDE);
        dueBeyond("UNKNOWN ahead of OUTSIDE", what -> stop.mood(1, what), 0, 4, UNKNOWN);
    }

    void moodsAreFeltInTheirMinute() {
        NeededStop stop = Calls.told("folk 0 1 3;debt 0 0;tears 0 59");
        due("the first, ahead of all", stop.mood(0, 3), NONE);
        stop.go(1);
        due("the first", stop.mood(0, 3), 1);
        stop.go(58);
        due("the last, in minute 58", stop.mood(1, 3), NONE);
        stop.go(1);
        due("the last", stop.mood(1, 3), 1);
    }

    void moodsAreFeltWithoutTrams() {
        NeededStop stop = gone(60, "nose 0 1;folk 0 5 3;debt 0 0");
        due("felt, though no nose smells it", stop.mood(0, 3), 5);
        due("not spent", stop.mood(0, 4), 0);
    }

    void moodsAreFeltAboardWhereTheTramIs() {
        // The tram is at 1 when minute 2 begins, and halts there by the mood of that minute.
        NeededStop stop = gone(3, "rail 4;tram 0 0 0 0;folk 0 0 2;nose 7 1;tears 0 0;tears 0 2");
        due("where", stop.mood(1, 3), 1);
        due("spent", stop.mood(1, 4), 1);
        due("the halt", stop.halt(1, 1), 1);
    }

    void moodsAreFeltAtHome() {
        NeededStop stop = gone(60, "rail 2;tram 0 0 0 0;folk 0 0 1;tears 0 0;tears 0 2;tears 0 4");
        due("where", stop.mood(2, 3), 1);
    }

    void moodsAreSpentOnce() {
        NeededStop stop = gone(60, "rail 4;tram 0 1 0 0;tram 1 1 0 0;folk 0 1 3;tears 0 0;nose 7 30");
        due("spent", stop.mood(0, 4), 1);
        due("halts", stop.count(9), 1);
    }

    // ---- Promise 7: drawn

    void drawnSeedsAre1To9999() {
        due("seed 1", Calls.told("folk 0 1 3").drawn(1, 1), 1);
        due("seed 9999", Calls.told("folk 0 1 3").drawn(9999, 1), 1);
        NeededStop stop = Calls.told("folk 0 1 3");
        dueBeyond("seed", z -> stop.drawn(z, 1), 1, 9999, OUTSIDE);
        due("none came", stop.count(7), 0);
    }

    void drawnMoodsAre1To24() {
        for (int n = 1; n <= 24; n++) {
            due("drawn " + n, Calls.told("folk 0 1 3").drawn(7, n), n);
        }
        NeededStop stop = Calls.told("folk 0 1 3");
        dueBeyond("moods", n -> stop.drawn(7, n), 1, 24, OUTSIDE);
        due("none came", stop.count(7), 0);
    }

    void drawnByTheSeed() {
        for (int z : new int[] {1, 2, 3, 64, 4095, 8191, 9998, 9999}) {
            for (int people = 1; people < 256; people += 14) {
                dueDrawn(z, people);
            }
        }
    }

    private void dueDrawn(int z, int people) {
        StringBuilder folk = new StringBuilder("calm");
        List<Integer> told = new ArrayList<>();
        for (int p = 0; p < 8; p++) {
            if ((people >> p & 1) == 1) {
                folk.append(";folk ").append(p).append(" 1 3");
                told.add(p);
            }
        }
        NeededStop stop = Calls.told(folk.toString());
        due("drawn", stop.drawn(z, 24), 24);
        long x = z;
        for (int mood = 0; mood < 24; mood++) {
            x = 16807 * x % 65521;
            due("whose", stop.mood(mood, 0), told.get((int) (x % told.size())));
            due("kind", stop.mood(mood, 1), (int) (x / 8 % 3));
            due("minute", stop.mood(mood, 2), (int) (x / 32 % 60));
        }
    }

    void drawnBeginsAtTheSeedEachTime() {
        NeededStop stop = Calls.told("folk 0 1 3;folk 1 1 3");
        stop.drawn(77, 2);
        stop.drawn(77, 2);
        for (int what = 0; what < 3; what++) {
            due("the first again", stop.mood(2, what), stop.mood(0, what));
            due("the second again", stop.mood(3, what), stop.mood(1, what));
        }
    }

    void drawnNotWhenAMinuteHasGone() {
        NeededStop stop = Calls.told("folk 0 1 3");
        stop.keep(0);
        stop.go(1);
        due("in minute 1", stop.drawn(1, 1), NOT);
        stop.go(60);
        due("at the end", stop.drawn(1, 1), NOT);
        due("none came", stop.count(7), 0);
        stop.back(0);
        due("in minute 0 again", stop.drawn(1, 1), 1);
    }

    void drawnNotWhenNobodyIsTold() {
        NeededStop stop = Calls.told("tram 0 0 0 0");
        due("nobody", stop.drawn(1, 1), NOT);
        tell(stop, "folk 7 1 3");
        due("one", stop.drawn(1, 1), 1);
        tell(stop, "rail 6");
        due("nobody again", stop.drawn(1, 1), NOT);
    }

    void drawnFullAndNoneComes() {
        for (int had = 1; had <= 24; had++) {
            NeededStop stop = Calls.told("folk 0 1 3");
            stop.drawn(5, had);
            for (int n = 25 - had; n <= 24; n++) {
                due(n + " more than " + had, stop.drawn(6, n), FULL);
            }
            due("none came", stop.count(7), had);
            if (had < 24) {
                due("as many as have room", stop.drawn(6, 24 - had), 24);
            }
        }
    }

    void drawnRefusedByTheFirstThatFits() {
        NeededStop stop = new NeededStop();
        due("OUTSIDE ahead of NOT, z", stop.drawn(0, 1), OUTSIDE);
        due("OUTSIDE ahead of NOT, n", stop.drawn(1, 0), OUTSIDE);
        stop = Calls.told("folk 0 1 3");
        stop.drawn(1, 24);
        due("OUTSIDE ahead of FULL, z", stop.drawn(10000, 1), OUTSIDE);
        due("OUTSIDE ahead of FULL, n", stop.drawn(1, 25), OUTSIDE);
        stop.go(1);
        due("NOT ahead of FULL", stop.drawn(1, 1), NOT);
        due("OUTSIDE ahead of both", stop.drawn(1, 25), OUTSIDE);
    }

    void drawnDropsWhatIsKeptNotWhatIsSeen() {
        NeededStop stop = Calls.told("folk 0 1 3");
        stop.keep(0);
        stop.keep(1);
        stop.seen(1, 1);
        stop.drawn(1, 1);
        due("back(0)", stop.back(0), NOT);
        due("back(1)", stop.back(1), NOT);
        due("seen", stop.count(10), 1);
    }
}
