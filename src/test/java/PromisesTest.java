/** Each promise of the document by answers that were worked out by hand. */
public final class PromisesTest {
    private static final int NONE = -1, UNKNOWN = -2, OUTSIDE = -3, NOT = -4, FULL = -5;
    // The tram halts at 1 in minute 1 and at 3 in minute 4; the one rider is home then.
    private static final String RIDE = "rail 4;tram 0 0 0 0;folk 0 1 3;fare 5;tears 0 1;tears 0 4";

    private final Calls calls = new Calls();

    public static void main(String[] args) {
        PromisesTest test = new PromisesTest();
        test.newObject();
        test.writeAndErase();
        test.faultsOfWords();
        test.faultsOfNumbers();
        test.faultsOfMoods();
        test.linesDone();
        test.textsBeginADay();
        test.moodsOfADay();
        test.moodsDrawn();
        test.moodsDrawnRefused();
        test.minutesGo();
        test.tramsOfADay();
        test.tramsTurnAndBegin();
        test.noseAndSpan();
        test.eldestCauseFirst();
        test.moodSpentByTheFirstTram();
        test.peopleOfADay();
        test.seatsByNumbers();
        test.halts();
        test.daysKept();
        test.homeForetold();
        test.feignedMoods();
        test.feignedOfLikeOnes();
        test.laws();
        test.wornAndDry();
        test.lastHome();
        test.fares();
        test.seenHalts();
        test.lawsReadBack();
        test.counts();
        test.calls.end("PromisesTest");
    }

    private void due(String call, int got, int want) {
        calls.due(call, got, want);
    }

    private void dueFault(String text, int want) {
        dueFault(new NeededStop(), text, want);
    }

    private void dueFault(NeededStop stop, String text, int want) {
        stop.erase();
        Calls.writeText(stop, text);
        due("fault of '" + text + "'", stop.fault(), want);
    }

    private void newObject() {
        NeededStop stop = new NeededStop();
        int[] first = {6, 7, 10, 4, 1, 0, 0, 0, 0, 0, 0, 0};
        for (int what = 0; what < first.length; what++) {
            due("new: count(" + what + ")", stop.count(what), first[what]);
        }
        due("new: tram(0, 0)", stop.tram(0, 0), UNKNOWN);
        due("new: person(0, 0)", stop.person(0, 0), UNKNOWN);
        due("new: dry()", stop.dry(), 63);
        due("NONE", NeededStop.NONE, NONE);
        due("UNKNOWN", NeededStop.UNKNOWN, UNKNOWN);
        due("OUTSIDE", NeededStop.OUTSIDE, OUTSIDE);
        due("NOT", NeededStop.NOT, NOT);
        due("FULL", NeededStop.FULL, FULL);
    }

    private void writeAndErase() {
        NeededStop stop = new NeededStop();
        due("write no bytes", stop.write(0, 0), OUTSIDE);
        due("write less than none", stop.write(0, -1), OUTSIDE);
        due("write 9 bytes", stop.write(0, 9), OUTSIDE);
        due("write the least int", stop.write(0, Integer.MIN_VALUE), OUTSIDE);
        due("write the greatest int", stop.write(0, Integer.MAX_VALUE), OUTSIDE);
        due("bytes after refusals", stop.count(11), 0);
        due("write 'ca', the rest of the long left out", stop.write(0x7a7a7a7a6163L, 2), 2);
        due("write 'lm'", stop.write(0x6d6cL, 2), 4);
        due("the lowest byte came first", stop.fault(), NONE);
        due("erase", stop.erase(), 4);
        due("erase nothing", stop.erase(), 0);
        due("an empty text", stop.fault(), 0);
        due("write bytes above 127", stop.write(-1L, 8), 8);
        due("a byte above 127", stop.fault(), 0);
        for (int i = 2; i <= 24; i++) {
            due("write on", stop.write(Calls.packed("        "), 8), 8 * i);
        }
        due("write to 193", stop.write(32, 1), 193);
        due("write past 200", stop.write(0, 8), FULL);
        due("OUTSIDE comes ahead of FULL", stop.write(0, 9), OUTSIDE);
        due("nothing changed", stop.count(11), 193);
        due("write to 200", stop.write(0, 7), 200);
        due("write one more", stop.write(0, 1), FULL);
        due("erase all", stop.erase(), 200);
    }

    private void faultsOfWords() {
        dueFault("", 0);
        dueFault("   ", 3);
        dueFault("rail", 4);
        dueFault("rail  ", 6);
        dueFault("rails 4", 0);
        dueFault("rai 4", 0);
        dueFault("Rail 4", 0);
        dueFault("rail x", 5);
        dueFault("rail ;", 5);
        dueFault("rail -4", 5);
        dueFault("rail\t4", 4);
        dueFault("7", 0);
        dueFault(";", 0);
        dueFault("calm;", 5);
        dueFault("calm; ", 6);
        dueFault("calm;;calm", 5);
        dueFault("calm calm", 5);
        dueFault("calm.", 4);
        dueFault("calmcalm", 0);
        dueFault("  calm  ;  fare   3  ", NONE);
        dueFault("calm;fare3;fare 4", NONE);
        dueFault("calm;calm;calm;calm;calm;calm;calm;calm;calm;calm", NONE);
        dueFault("calm;calm;calm;calm;calm;calm;calm;calm;calm;calm;calm", 49);
        dueFault("calm;calm;calm;calm;calm;calm;calm;calm;calm;calm;", 49);
        dueFault("calm;calm;calm;calm;calm;calm;calm;calm;calm;calm 1", 50);
    }

    private void faultsOfNumbers() {
        String[] fine = {"rail 2", "rail 12", "rail 02", "nose 0 1", "nose 7 30", "seats 1", "seats 6", "fare 0", "fare 99",
            "tram 0 0 0 0", "tram 1 5 59 1", "folk 0 0 5", "folk 7 5 0", "rail 12;tram 0 11 0 0", "tram 01 05 09 01"};
        for (String text : fine) {
            dueFault(text, NONE);
        }
        dueFault("rail 1", 5);
        dueFault("rail 13", 5);
        dueFault("rail 4 4", 7);
        dueFault("nose 8 1", 5);
        dueFault("nose 7", 6);
        dueFault("nose 7 0", 7);
        dueFault("nose 7 31", 7);
        dueFault("seats 0", 6);
        dueFault("seats 7", 6);
        dueFault("fare 100", 5);
        dueFault("fare 000", 5);
        dueFault("tram 2 0 0 0", 5);
        dueFault("tram 0 6 0 0", 7);
        dueFault("tram 0 0 60 0", 9);
        dueFault("tram 0 0 0 2", 11);
        dueFault("tram 0 0 0", 10);
        dueFault("rail 3;tram 0 3 0 0", 14);
        dueFault("folk 8 0 1", 5);
        dueFault("folk 0 6 1", 7);
        dueFault("folk 0 1 6", 9);
        dueFault("folk 0 1 1", 9);
        dueFault("folk 0 1", 8);
        dueFault("fare 3;fare 100;seats 9", 12);
    }

    private void faultsOfMoods() {
        dueFault("tears 0 0", 6);
        dueFault("laughter 0 0", 9);
        dueFault("debt", 4);
        dueFault("tears 0 0;folk 0 0 1", 6);
        dueFault("folk 3 0 1;debt 3 59", NONE);
        dueFault("folk 3 0 1;debt 3 60", 18);
        dueFault("folk 3 0 1;debt 2 0", 16);
        dueFault("folk 3 0 1;debt 8 0", 16);
        dueFault("folk 3 0 1;rail 6;debt 3 0", 23);
        NeededStop stop = Calls.told("folk 1 2 3");
        dueFault(stop, "tears 1 1", NONE);
        dueFault(stop, "tears 0 1", 6);
        due("rail of a fault", stop.rail(), NOT);
        due("nothing changed: the text", stop.count(11), 9);
        stop.drawn(5, 23);
        dueFault(stop, "tears 1 1", NONE);
        dueFault(stop, "tears 1 1;debt 1 1", 10);
        dueFault(stop, "tears 1 1;debt", 10);
        dueFault(stop, "tears 1 1;calm;debt 1 1", NONE);
        dueFault(stop, "tears 1 1;rail 6;folk 2 0 1;debt 2 1", NONE);
        due("fault changes nothing", stop.count(7), 23);
    }

    private void linesDone() {
        NeededStop stop = new NeededStop();
        due("rail of no text", stop.rail(), NOT);
        Calls.writeText(stop, "rail 9;nose 5 20;seats 2;fare 33;tram 1 8 59 1;folk 6 7 8;debt 6 12");
        due("rail", stop.rail(), 7);
        int[] behind = {9, 5, 20, 2, 33, 2, 64, 1, 0, 0, 0, 0};
        for (int what = 0; what < behind.length; what++) {
            due("behind the lines: count(" + what + ")", stop.count(what), behind[what]);
        }
        due("the tram's place", stop.tram(1, 0), 8);
        due("the tram's way", stop.tram(1, 1), 1);
        due("the mood's kind", stop.mood(0, 1), 2);
        Calls.writeText(stop, "folk 6 1 2");
        due("told anew", stop.rail(), 1);
        due("moods stay", stop.count(7), 1);
        due("another home", stop.person(6, 4), 2);
        Calls.writeText(stop, "calm;fare 5;fare 6");
        due("lines in their order", stop.rail(), 3);
        due("the later fare", stop.count(4), 6);
        due("calm", stop.count(7), 0);
        due("calm leaves people", stop.count(6), 64);
        Calls.writeText(stop, "rail 3");
        due("a new rail", stop.rail(), 1);
        due("no trams", stop.count(5), 0);
        due("no people", stop.count(6), 0);
        due("the nose stays", stop.count(1), 5);
        due("the fare stays", stop.count(4), 6);
    }

    private void textsBeginADay() {
        NeededStop stop = Calls.told(RIDE);
        stop.go(10);
        stop.keep(0);
        stop.seen(1, 1);
        Calls.writeText(stop, "fare 5;");
        due("a text with a fault", stop.rail(), NOT);
        due("the day goes on", stop.count(8), 10);
        due("what was seen stays", stop.count(10), 1);
        due("what was kept stays", stop.back(0), 10);
        stop.erase();
        Calls.writeText(stop, "fare 5");
        due("a text", stop.rail(), 1);
        due("minute 0", stop.count(8), 0);
        due("no halts", stop.count(9), 0);
        due("nothing seen", stop.count(10), 0);
        due("nothing kept", stop.back(0), NOT);
        due("nothing spent", stop.mood(0, 4), 0);
        due("nothing felt", stop.mood(0, 3), NONE);
        due("at its begin", stop.person(0, 0), 1);
        due("owes nothing", stop.person(0, 3), 0);
    }

    private void moodsOfADay() {
        NeededStop stop = Calls.told(RIDE + ";laughter 0 9");
        due("no mood yet felt", stop.mood(0, 3), NONE);
        stop.go(1);
        due("felt in minute 1", stop.mood(0, 3), NONE);
        stop.go(1);
        due("felt where it waits", stop.mood(0, 3), 1);
        due("spent", stop.mood(0, 4), 1);
        stop.go(3);
        due("felt where the tram is", stop.mood(1, 3), 3);
        stop.go(5);
        due("felt at home", stop.mood(2, 3), 3);
        due("not spent", stop.mood(2, 4), 0);
        due("whose", stop.mood(2, 0), 0);
        due("kind", stop.mood(2, 1), 1);
        due("minute", stop.mood(2, 2), 9);
        due("mood(3, 0)", stop.mood(3, 0), UNKNOWN);
        due("mood(-1, 9)", stop.mood(-1, 9), UNKNOWN);
        due("mood(24, 0)", stop.mood(24, 0), UNKNOWN);
        due("mood(0, 5)", stop.mood(0, 5), OUTSIDE);
        due("mood(0, -1)", stop.mood(0, -1), OUTSIDE);
    }

    private void moodsDrawn() {
        NeededStop stop = Calls.told("folk 2 0 1;folk 5 1 0");
        // x is 33614, then 28436: both even, so of the first of two.
        due("drawn(2, 2)", stop.drawn(2, 2), 2);
        int[][] want = {{2, 1, 30}, {2, 2, 48}};
        for (int mood = 0; mood < 2; mood++) {
            for (int what = 0; what < 3; what++) {
                due("mood(" + mood + ", " + what + ")", stop.mood(mood, what), want[mood][what]);
            }
        }
        // x is 16807: odd, of the second; 2100 by three leaves 0; 525 by sixty leaves 45.
        due("drawn(1, 1)", stop.drawn(1, 1), 3);
        due("whose", stop.mood(2, 0), 5);
        due("kind", stop.mood(2, 1), 0);
        due("minute", stop.mood(2, 2), 45);
    }

    private void moodsDrawnRefused() {
        NeededStop stop = new NeededStop();
        due("nobody is told", stop.drawn(1, 1), NOT);
        due("OUTSIDE ahead of NOT", stop.drawn(0, 1), OUTSIDE);
        stop = Calls.told("folk 0 0 1");
        due("seed 0", stop.drawn(0, 1), OUTSIDE);
        due("seed 10000", stop.drawn(10000, 1), OUTSIDE);
        due("no moods", stop.drawn(1, 0), OUTSIDE);
        due("25 moods", stop.drawn(1, 25), OUTSIDE);
        due("seed 9999", stop.drawn(9999, 1), 1);
        due("24 more", stop.drawn(1, 24), FULL);
        due("none came", stop.count(7), 1);
        due("23 more", stop.drawn(1, 23), 24);
        due("one more", stop.drawn(1, 1), FULL);
        stop.keep(1);
        stop.seen(1, 1);
        due("refused, the kept day stays", stop.back(1), 0);
        stop.go(1);
        due("NOT ahead of FULL", stop.drawn(1, 1), NOT);
        due("back at minute 0", stop.back(1), 0);
        Calls.writeText(stop, "calm");
        stop.rail();
        stop.keep(1);
        stop.seen(1, 1);
        stop.go(1);
        stop.back(1);
        due("drawn again at minute 0", stop.drawn(1, 1), 1);
        due("drawn: nothing is kept", stop.back(1), NOT);
        due("drawn: what was seen stays", stop.count(10), 1);
    }

    private void minutesGo() {
        NeededStop stop = new NeededStop();
        due("go(0)", stop.go(0), OUTSIDE);
        due("go(-1)", stop.go(-1), OUTSIDE);
        due("go(61)", stop.go(61), OUTSIDE);
        due("go(greatest)", stop.go(Integer.MAX_VALUE), OUTSIDE);
        due("go(1)", stop.go(1), 1);
        due("go(58)", stop.go(58), 59);
        due("go(60)", stop.go(60), 60);
        due("go(1) at the end", stop.go(1), 60);
        due("count(8)", stop.count(8), 60);
    }

    private void tramsOfADay() {
        NeededStop stop = Calls.told(RIDE);
        int[] places = {1, 1, 2, 3, 3, 2, 1, 0, 1};
        int[] ways = {0, 0, 0, 0, 0, 1, 1, 1, 0};
        int[] aboard = {0, 1, 1, 1, 0, 0, 0, 0, 0};
        int[] halts = {0, 1, 1, 1, 2, 2, 2, 2, 2};
        for (int t = 0; t < places.length; t++) {
            stop.go(1);
            due("its place behind minute " + t, stop.tram(0, 0), places[t]);
            due("its way behind minute " + t, stop.tram(0, 1), ways[t]);
            due("aboard behind minute " + t, stop.tram(0, 2), aboard[t]);
            due("its halts behind minute " + t, stop.tram(0, 3), halts[t]);
        }
        due("tram(1, 0)", stop.tram(1, 0), UNKNOWN);
        due("tram(2, 0)", stop.tram(2, 0), UNKNOWN);
        due("tram(-1, 9)", stop.tram(-1, 9), UNKNOWN);
        due("tram(0, 4)", stop.tram(0, 4), OUTSIDE);
        due("tram(0, -1)", stop.tram(0, -1), OUTSIDE);
    }

    private void tramsTurnAndBegin() {
        NeededStop stop = Calls.told("rail 2;tram 0 0 2 1;tram 1 1 0 0");
        stop.go(1);
        due("not begun", stop.tram(0, 0), 0);
        due("its way as told", stop.tram(0, 1), 1);
        due("turned at the end", stop.tram(1, 0), 0);
        due("down", stop.tram(1, 1), 1);
        stop.go(1);
        due("not begun in 1", stop.tram(0, 0), 0);
        due("up again", stop.tram(1, 0), 1);
        stop.go(1);
        due("begun in 2", stop.tram(0, 0), 1);
        due("turned first", stop.tram(0, 1), 0);
        stop = Calls.told("rail 4;tram 0 0 0 0;folk 0 0 1;tears 0 0;tears 0 0;tears 0 1");
        stop.go(3);
        due("one halt since it began", stop.count(9), 1);
        due("it went on", stop.tram(0, 0), 2);
        due("aboard at 1 in minute 2: not HALTED there", stop.person(0, 2), NONE);
    }

    private void noseAndSpan() {
        String told = "rail 4;tram 0 0 0 0;folk 0 2 3;debt 0 0;";
        due("two minutes ago is within 3", Calls.told(told + "nose 4 3").worn(2), 1);
        due("two minutes ago is not within 2", Calls.told(told + "nose 4 2").worn(2), 0);
        due("not of the nose's kinds", Calls.told(told + "nose 3 3").worn(2), 0);
        due("no kinds", Calls.told(told + "nose 0 30").dry(), 15);
    }

    private void eldestCauseFirst() {
        NeededStop stop = Calls.told("rail 4;tram 0 0 0 0;folk 0 2 3;folk 1 2 0;tears 0 1;debt 1 0;debt 0 0");
        stop.go(3);
        due("the eldest, of like ones the first", stop.halt(0, 3), 1);
        due("whose", stop.halt(0, 4), 1);
        due("the others stay", stop.mood(0, 4) + stop.mood(2, 4), 0);
    }

    private void moodSpentByTheFirstTram() {
        NeededStop stop = Calls.told("rail 4;tram 0 1 0 0;tram 1 1 0 0;folk 0 1 3;tears 0 0");
        stop.go(1);
        due("the first tram halts", stop.tram(0, 3), 1);
        due("the second goes on", stop.tram(1, 0), 2);
        stop = Calls.told("rail 4;tram 0 1 0 0;tram 1 1 0 0;folk 0 1 3;tears 0 0;debt 0 0");
        stop.go(1);
        due("two moods, two halts", stop.count(9), 2);
        due("aboard the first", stop.person(0, 1), 0);
        due("the second's mood", stop.halt(1, 3), 1);
        due("nobody is left for it", stop.tram(1, 2), 0);
    }

    private void peopleOfADay() {
        NeededStop stop = Calls.told(RIDE);
        int[][] want = {{1, NONE, NONE, 0}, {1, 0, NONE, 0}, {2, 0, NONE, 5}, {3, 0, NONE, 10}, {3, NONE, 4, 10}};
        for (int t = 0; t < want.length; t++) {
            stop.go(1);
            for (int what = 0; what < 4; what++) {
                due("person(0, " + what + ") behind minute " + t, stop.person(0, what), want[t][what]);
            }
        }
        stop.go(60);
        due("home for good", stop.person(0, 2), 4);
        due("home", stop.person(0, 4), 3);
        due("person(1, 0)", stop.person(1, 0), UNKNOWN);
        due("person(8, 0)", stop.person(8, 0), UNKNOWN);
        due("person(-1, 9)", stop.person(-1, 9), UNKNOWN);
        due("person(0, 5)", stop.person(0, 5), OUTSIDE);
        due("person(0, -1)", stop.person(0, -1), OUTSIDE);
    }

    private void seatsByNumbers() {
        String told = "rail 4;tram 0 1 0 0;folk 7 1 3;folk 2 1 3;folk 4 1 2;tears 7 0;";
        NeededStop stop = Calls.told(told + "seats 2");
        stop.go(1);
        due("two seats, by numbers", stop.tram(0, 2), 4 + 16);
        stop = Calls.told(told + "seats 6");
        stop.go(1);
        due("seats for all", stop.tram(0, 2), 4 + 16 + 128);
        // One gets off at 2 in minute 2, so that its seat is free for the one who waits there.
        stop = Calls.told("rail 4;seats 1;tram 0 1 0 0;folk 0 1 2;folk 1 2 3;tears 0 0;tears 0 2");
        stop.go(3);
        due("off first", stop.person(0, 2), 2);
        due("then on", stop.tram(0, 2), 2);
    }

    private void halts() {
        NeededStop stop = Calls.told(RIDE);
        due("no halt yet", stop.halt(0, 0), NONE);
        stop.go(60);
        int[][] want = {{0, 1, 1, 0, 0}, {0, 3, 4, 1, 0}};
        for (int i = 0; i < 2; i++) {
            for (int what = 0; what < 5; what++) {
                due("halt(" + i + ", " + what + ")", stop.halt(i, what), want[i][what]);
            }
        }
        due("halt(2, 0)", stop.halt(2, 0), NONE);
        due("halt(greatest, 0)", stop.halt(Integer.MAX_VALUE, 0), NONE);
        due("halt(-1, 0)", stop.halt(-1, 0), OUTSIDE);
        due("halt(0, 5)", stop.halt(0, 5), OUTSIDE);
        due("halt(0, -1)", stop.halt(0, -1), OUTSIDE);
        due("refused ahead of NONE", stop.halt(2, 5), OUTSIDE);
    }

    private void daysKept() {
        NeededStop stop = Calls.told(RIDE);
        due("nothing kept", stop.back(0), NOT);
        due("keep(2)", stop.keep(2), UNKNOWN);
        due("keep(-1)", stop.keep(-1), UNKNOWN);
        due("back(2)", stop.back(2), UNKNOWN);
        due("back(-1)", stop.back(-1), UNKNOWN);
        due("keep(0)", stop.keep(0), 0);
        stop.go(3);
        due("keep(1)", stop.keep(1), 3);
        stop.go(57);
        due("back(1)", stop.back(1), 3);
        due("minutes", stop.count(8), 3);
        due("halts", stop.count(9), 1);
        due("aboard", stop.tram(0, 2), 1);
        due("place", stop.tram(0, 0), 2);
        due("owed", stop.person(0, 3), 5);
        due("not homed", stop.person(0, 2), NONE);
        due("felt", stop.mood(1, 3), NONE);
        stop.go(2);
        due("it goes on as before", stop.person(0, 2), 4);
        due("back(1) again", stop.back(1), 3);
        due("back(0)", stop.back(0), 0);
        due("not spent", stop.mood(0, 4), 0);
        due("keep(0) anew", stop.keep(0), 0);
        due("the other is still kept", stop.back(1), 3);
    }

    private void homeForetold() {
        NeededStop stop = Calls.told(RIDE + ";folk 1 0 2");
        due("home(0)", stop.home(0), 4);
        due("home(1)", stop.home(1), NONE);
        due("home(2)", stop.home(2), UNKNOWN);
        due("home(8)", stop.home(8), UNKNOWN);
        due("home(-1)", stop.home(-1), UNKNOWN);
        stop.go(2);
        stop.home(0);
        due("nothing changes", stop.count(8), 2);
        due("nothing is homed", stop.person(0, 2), NONE);
        stop.go(58);
        due("from its begin", stop.home(0), 4);
    }

    private void dueFeigned(NeededStop stop, int person, int n, int[] want) {
        for (int what = 0; what < 4; what++) {
            due("feigned(" + person + ", " + n + ", " + what + ")", stop.feigned(person, n, what), want[what]);
        }
    }

    private void feignedMoods() {
        NeededStop stop = Calls.told("rail 4;tram 0 0 0 0;folk 0 1 3");
        dueFeigned(stop, 0, 0, new int[] {NONE, NONE, NONE, NONE});
        dueFeigned(stop, 0, 1, new int[] {NONE, NONE, NONE, NONE});
        dueFeigned(stop, 0, 2, new int[] {4, 2, 0, 4});
        stop = Calls.told("rail 4;tram 0 0 0 0;folk 0 1 3;nose 6 1");
        dueFeigned(stop, 0, 2, new int[] {4, 2, 1, 4});
        stop = Calls.told("rail 4;tram 0 0 0 0;folk 0 1 3;nose 0 30");
        dueFeigned(stop, 0, 2, new int[] {NONE, NONE, NONE, NONE});
        stop = Calls.told("rail 4;tram 0 0 0 0;folk 0 1 3;tears 0 1");
        dueFeigned(stop, 0, 2, new int[] {4, 1, 4, NONE});
        due("nothing changes", stop.count(7), 1);
        stop = Calls.told(RIDE);
        dueFeigned(stop, 0, 2, new int[] {4, 0, NONE, NONE});
        due("one that is not told", stop.feigned(1, 3, 4), UNKNOWN);
        due("person -1", stop.feigned(-1, 0, 0), UNKNOWN);
        due("person 8", stop.feigned(8, 0, 0), UNKNOWN);
        due("n 3", stop.feigned(0, 3, 0), OUTSIDE);
        due("n -1", stop.feigned(0, -1, 0), OUTSIDE);
        due("what 4", stop.feigned(0, 0, 4), OUTSIDE);
        due("what -1", stop.feigned(0, 0, -1), OUTSIDE);
    }

    private void feignedOfLikeOnes() {
        // Full of moods, two more are feigned all the same.
        NeededStop stop = Calls.told("rail 4;tram 0 0 0 0;folk 0 1 3;folk 1 0 1;nose 1 10");
        stop.drawn(7, 24);
        due("moods are full", stop.count(7), 24);
        PlainModel model = new PlainModel();
        for (String text : new String[] {"rail 4;tram 0 0 0 0;", "folk 0 1 3;folk 1 0 1;", "nose 1 10"}) {
            for (int i = 0; i < text.length(); i++) {
                model.write(text.charAt(i), 1);
            }
        }
        model.rail();
        model.drawn(7, 24);
        for (int person = 0; person < 2; person++) {
            int[] want = new int[4];
            for (int what = 0; what < 4; what++) {
                want[what] = model.feigned(person, 2, what);
            }
            dueFeigned(stop, person, 2, want);
        }
        // A mood told for minute 1 is felt ahead of the feigned one, which is left for minute 4.
        stop = Calls.told("rail 4;tram 0 1 1 0;folk 0 1 2;folk 1 1 3;tears 1 1");
        dueFeigned(stop, 0, 1, new int[] {3, 1, 3, NONE});
        // Two trams come at once and the first one's seat goes to another, so both moods are felt ahead of them.
        NeededStop both = Calls.told("rail 4;seats 1;tram 0 0 0 0;tram 1 0 0 0;folk 0 1 2;folk 5 1 3;folk 6 3 0;tears 6 4;debt 6 4");
        dueFeigned(both, 5, 1, new int[] {NONE, NONE, NONE, NONE});
        dueFeigned(both, 5, 2, new int[] {4, 2, 0, 1});
        // What is known of one told day is not what holds of the next.
        Calls.writeText(stop, "tram 0 1 5 0;tears 1 5");
        stop.rail();
        dueFeigned(stop, 0, 1, new int[] {7, 1, 7, NONE});
        stop.drawn(3, 1);
        due("asked anew behind drawn", stop.feigned(0, 0, 0), NONE);
    }

    private void laws() {
        NeededStop stop = Calls.told(RIDE);
        due("law(0)", stop.law(0), 1);
        due("law(1)", stop.law(1), 4);
        due("law(2)", stop.law(2), OUTSIDE);
        due("law(-1)", stop.law(-1), OUTSIDE);
        stop = Calls.told("rail 4;tram 0 0 0 0;folk 0 1 3;folk 1 0 2;debt 0 1;laughter 0 4;nose 1 9");
        due("two kinds are needed", stop.law(0), 6);
        due("the other one is not home", stop.law(1), 64);
        due("the nose stays", stop.count(1), 1);
        due("nobody", new NeededStop().law(0), 0);
        due("nobody is late", new NeededStop().law(1), 0);
    }

    private void wornAndDry() {
        NeededStop stop = Calls.told(RIDE + ";debt 0 20;debt 0 21");
        // Two debts at 3: the tram is there in minutes 23 and 30, and each time one of them is not yet stale.
        due("worn(1)", stop.worn(1), 1);
        due("worn(0)", stop.worn(0), 0);
        due("worn(4)", stop.worn(4), UNKNOWN);
        due("worn(-1)", stop.worn(-1), UNKNOWN);
        due("worn(greatest)", stop.worn(Integer.MAX_VALUE), UNKNOWN);
        due("dry()", stop.dry(), 1 + 4);
        due("worn at home", Calls.told(RIDE).worn(3), 1);
        due("worn again at home", stop.worn(3), 3);
        due("no trams", Calls.told("rail 12;folk 0 0 1;tears 0 0").dry(), 4095);
    }

    private void lastHome() {
        String told = "rail 4;tram 0 0 0 0;folk 0 1 3;folk 1 1 2;folk 2 1 0;tears 0 1;tears 0 3;tears 0 5";
        NeededStop stop = Calls.told(told);
        due("the only place", stop.last(0), 1);
        due("above", stop.last(1), 5 + 3 + 60);
        due("below", stop.last(2), 3);
        stop = Calls.told(told + ";folk 3 0 2");
        due("a greater mean", stop.last(0), 0);
        due("its above", stop.last(1), 60);
        due("its below", stop.last(2), 1);
        stop = Calls.told("folk 0 5 0;folk 1 2 0;folk 2 2 1");
        due("of several the least", stop.last(0), 2);
        due("in lowest terms, above", stop.last(1), 60);
        due("in lowest terms, below", stop.last(2), 1);
        due("last(3)", stop.last(3), OUTSIDE);
        due("last(-1)", stop.last(-1), OUTSIDE);
        due("nobody, wrong what", new NeededStop().last(3), OUTSIDE);
        for (int what = 0; what < 3; what++) {
            due("nobody", new NeededStop().last(what), NONE);
        }
    }

    private void fares() {
        due("two places at 5", Calls.told(RIDE).fares(), 10);
        due("no fare", Calls.told(RIDE + ";fare 0").fares(), 0);
        // Both ride from minute 1 on, one until it is home in 4, the other all the day.
        due("two riders", Calls.told(RIDE + ";folk 1 1 2;fare 1").fares(), 2 + 57);
        due("nobody", new NeededStop().fares(), 0);
    }

    private void seenHalts() {
        NeededStop stop = new NeededStop();
        due("seen(6, 60)", stop.seen(6, 60), UNKNOWN);
        due("seen(-1, 0)", stop.seen(-1, 0), UNKNOWN);
        due("seen(0, 60)", stop.seen(0, 60), OUTSIDE);
        due("seen(0, -1)", stop.seen(0, -1), OUTSIDE);
        for (int i = 1; i <= 8; i++) {
            due("seen", stop.seen(5, 59), i);
        }
        due("a ninth", stop.seen(0, 0), FULL);
        due("OUTSIDE ahead of FULL", stop.seen(0, 60), OUTSIDE);
        due("count(10)", stop.count(10), 8);
        due("forget()", stop.forget(), 8);
        due("forget() again", stop.forget(), 0);
        due("count(10)", stop.count(10), 0);
        due("a first one", stop.seen(0, 0), 1);
    }

    private void lawsReadBack() {
        NeededStop stop = Calls.told(RIDE);
        due("all laws", stop.read(0), 210);
        stop.seen(3, 4);
        due("laws with tears", stop.read(0), 120);
        due("kinds of the first", stop.read(1), 1);
        due("its span", stop.read(2), 1);
        int[][] odds = {{1, 1}, {1, 2}, {1, 2}};
        for (int kind = 0; kind < 3; kind++) {
            for (int part = 0; part < 2; part++) {
                due("odds(" + kind + ", " + part + ")", stop.odds(kind, part), odds[kind][part]);
            }
        }
        stop.seen(2, 3);
        due("no law", stop.read(0), 0);
        due("no kinds", stop.read(1), NONE);
        due("no span", stop.read(2), NONE);
        due("no odds", stop.odds(0, 0), NOT);
        due("OUTSIDE ahead of NOT", stop.odds(3, 0), OUTSIDE);
        due("part 2", stop.odds(0, 2), OUTSIDE);
        due("part -1", stop.odds(0, -1), OUTSIDE);
        due("kind -1", stop.odds(-1, 0), OUTSIDE);
        due("read(3)", stop.read(3), OUTSIDE);
        due("read(-1)", stop.read(-1), OUTSIDE);
        stop.forget();
        due("all laws again", stop.read(0), 210);
        spansReadBack();
    }

    private void spansReadBack() {
        // The debt of minute 0 halts the tram at 2 in minute 2, if the span is 3 or more.
        NeededStop stop = Calls.told("rail 4;tram 0 0 0 0;folk 0 2 3;debt 0 0");
        stop.seen(2, 2);
        due("kinds with debt, spans from 3", stop.read(0), 4 * 28);
        due("kinds of the first", stop.read(1), 4);
        due("its span", stop.read(2), 3);
        due("the nose stays", stop.count(2), 10);
        due("debt is certain", stop.odds(2, 0), 1);
        stop.seen(2, 2);
        due("seen twice is one halt", stop.read(0), 4 * 28);
        due("a day is not gone", stop.count(8), 0);
        stop = Calls.told("rail 4;tram 0 0 0 0;folk 0 2 3");
        // The mood that is drawn is laughter in minute 30, when the tram begins to go from 0 to 1 once more.
        stop.seen(2, 32);
        due("no mood yet, no law", stop.read(0), 0);
        stop.drawn(2, 1);
        due("read anew behind drawn", stop.read(0), 4 * 28);
        due("laughter alone", stop.read(1), 2);
        stop.forget();
        stop.seen(2, 2);
        due("no mood then, no law", stop.read(0), 0);
        Calls.writeText(stop, "debt 0 0");
        stop.rail();
        due("a text forgets what was seen", stop.read(0), 210);
    }

    private void counts() {
        NeededStop stop = Calls.told(RIDE);
        stop.go(2);
        due("count(5)", stop.count(5), 1);
        due("count(6)", stop.count(6), 1);
        due("count(7)", stop.count(7), 2);
        due("count(8)", stop.count(8), 2);
        due("count(9)", stop.count(9), 1);
        due("count(12)", stop.count(12), OUTSIDE);
        due("count(-1)", stop.count(-1), OUTSIDE);
        due("count(least)", stop.count(Integer.MIN_VALUE), OUTSIDE);
    }
}
