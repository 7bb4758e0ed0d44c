import java.util.function.BiFunction;

/** The edges of what is foretold: promises 14 to 20. */
public final class ForetoldEdgesTest extends Edges {
    private static final String RIDE = "rail 4;tram 0 0 0 0;folk 0 1 3;fare 5;tears 0 1;tears 0 4";
    // By these the one is home in minute 59, the last of the day.
    private static final String LATEST = "rail 4;tram 0 0 55 0;folk 0 1 3;tears 0 56;tears 0 59";
    // All is a minute later, so that the day ends when the tram comes.
    private static final String TOO_LATE = "rail 4;tram 0 0 56 0;folk 0 1 3;tears 0 57";

    public static void main(String[] args) throws IllegalAccessException {
        new ForetoldEdgesTest().runAll();
    }

    private void dueFeigned(NeededStop stop, int person, int n, int... want) {
        dueRow("feigned(" + person + ", " + n + ")", what -> stop.feigned(person, n, what), want);
    }

    private void dueUnknownPeople(String call, BiFunction<NeededStop, Integer, Integer> asked) {
        NeededStop none = new NeededStop();
        dueBeyond(call + " of none", person -> asked.apply(none, person), 0, -1, UNKNOWN);
        NeededStop all = Calls.told(ALL_FOLK);
        dueBeyond(call + " of all", person -> asked.apply(all, person), 0, 7, UNKNOWN);
        for (int told = 0; told < 8; told++) {
            NeededStop stop = Calls.told("folk " + told + " 4 5");
            for (int person = 0; person < 8; person++) {
                due(call + " of " + person + ", told " + told, asked.apply(stop, person), person == told ? NONE : UNKNOWN);
            }
        }
    }

    // ---- Promise 14: home

    void homeOfPeopleThatAreNotToldIsUnknown() {
        dueUnknownPeople("home", NeededStop::home);
    }

    void homeInTheLastMinute() {
        due("in 59", Calls.told(LATEST).home(0), 59);
        due("too late", Calls.told(TOO_LATE + ";tears 0 59").home(0), NONE);
    }

    void homeIsByAWholeDayFromItsBegin() {
        NeededStop stop = Calls.told(RIDE);
        for (int t = 0; t <= 60; t += 2) {
            due("in minute " + t, stop.home(0), 4);
            due("the day stays", stop.count(8), t);
            stop.go(2);
        }
    }

    void homeIsNoneWithoutTramsOrMoods() {
        due("no tram", Calls.told("folk 0 1 3;tears 0 1;tears 0 4").home(0), NONE);
        due("no mood", Calls.told("tram 0 0 0 0;folk 0 1 3").home(0), NONE);
        due("no kinds", Calls.told(RIDE + ";nose 0 30").home(0), NONE);
    }

    // ---- Promise 15: feigned

    void feignedOfPeopleThatAreNotToldIsUnknown() {
        dueUnknownPeople("feigned", (stop, person) -> stop.feigned(person, 0, 0));
        NeededStop stop = Calls.told(RIDE);
        due("UNKNOWN ahead of OUTSIDE, n", stop.feigned(1, 3, 0), UNKNOWN);
        due("UNKNOWN ahead of OUTSIDE, what", stop.feigned(1, 0, 4), UNKNOWN);
    }

    void feignedNIs0To2() {
        NeededStop stop = Calls.told(RIDE);
        dueRow("n", n -> stop.feigned(0, n, 0), 4, 4, 4, OUTSIDE);
        dueBeyond("n", n -> stop.feigned(0, n, 0), 0, 2, OUTSIDE);
    }

    void feignedWhatIs0To3() {
        NeededStop stop = Calls.told("rail 4;tram 0 0 0 0;folk 0 1 3");
        dueFeigned(stop, 0, 2, 4, 2, 0, 4, OUTSIDE);
        dueBeyond("what", what -> stop.feigned(0, 2, what), 0, 3, OUTSIDE);
        dueBeyond("what, with none to be told", what -> stop.feigned(0, 0, what), 0, 3, OUTSIDE);
    }

    void feignedNoneIsHome() {
        dueFeigned(Calls.told(RIDE), 0, 0, 4, 0, NONE, NONE);
        dueFeigned(Calls.told(LATEST), 0, 0, 59, 0, NONE, NONE);
        dueFeigned(Calls.told(TOO_LATE), 0, 0, NONE, NONE, NONE, NONE);
    }

    void feignedIsNoneWhereNoMoodsHelp() {
        for (int n = 0; n <= 2; n++) {
            dueFeigned(Calls.told(TOO_LATE), 0, n, NONE, NONE, NONE, NONE);
            dueFeigned(Calls.told("folk 0 1 3"), 0, n, NONE, NONE, NONE, NONE);
            dueFeigned(Calls.told("tram 0 0 0 0;folk 0 1 3;nose 0 30"), 0, n, NONE, NONE, NONE, NONE);
        }
        NeededStop stop = Calls.told("rail 4;tram 0 0 0 0;folk 0 1 3");
        dueFeigned(stop, 0, 1, NONE, NONE, NONE, NONE);
        dueFeigned(stop, 0, 2, 4, 2, 0, 4);
    }

    void feignedInTheFirstMinute() {
        dueFeigned(Calls.told("rail 4;tram 0 1 0 0;folk 0 1 3;nose 7 1"), 0, 2, 3, 2, 0, 3);
        dueFeigned(Calls.told("rail 4;tram 0 1 0 0;folk 0 1 3;tears 0 3"), 0, 1, 3, 1, 0, NONE);
    }

    void feignedInTheLastMinute() {
        NeededStop stop = Calls.told("rail 4;tram 0 0 55 0;folk 0 1 3;tears 0 56");
        dueFeigned(stop, 0, 0, NONE, NONE, NONE, NONE);
        dueFeigned(stop, 0, 1, 59, 1, 59, NONE);
        dueFeigned(stop, 0, 2, 59, 1, 59, NONE);
        dueFeigned(Calls.told("rail 4;nose 7 1;tram 0 0 55 0;folk 0 1 3"), 0, 2, 59, 2, 56, 59);
    }

    void feignedAreTheFewest() {
        NeededStop stop = Calls.told("rail 4;tram 0 0 0 0;folk 0 1 3;tears 0 1");
        dueFeigned(stop, 0, 1, 4, 1, 4, NONE);
        dueFeigned(stop, 0, 2, 4, 1, 4, NONE);
        for (int n = 0; n <= 2; n++) {
            dueFeigned(Calls.told(RIDE), 0, n, 4, 0, NONE, NONE);
        }
    }

    void feignedAreOfTheFirstMinutes() {
        // Felt in 0 .. 10, the first mood halts the tram at 1 in 10; the second is felt aboard at 3.
        dueFeigned(Calls.told("rail 4;tram 0 1 10 0;folk 0 1 3"), 0, 2, 13, 2, 1, 13);
        dueFeigned(Calls.told("rail 4;tram 0 1 10 0;folk 0 1 3;nose 1 11"), 0, 2, 13, 2, 0, 13);
        dueFeigned(Calls.told("rail 4;tram 0 1 10 0;folk 0 1 3;nose 4 1"), 0, 2, 13, 2, 10, 13);
    }

    void feignedAreInUnlikeMinutes() {
        // The first tram's seat goes to another, so both moods must be felt ahead of minute 1.
        NeededStop both = Calls.told("rail 4;seats 1;tram 0 0 0 0;tram 1 0 0 0;folk 0 1 2;folk 5 1 3;folk 6 3 0;tears 6 4;debt 6 4");
        dueFeigned(both, 5, 1, NONE, NONE, NONE, NONE);
        dueFeigned(both, 5, 2, 4, 2, 0, 1);
        // Both are felt in the minute in which the trams are there, and two moods are not of one minute.
        NeededStop like = Calls.told("rail 4;nose 7 1;seats 1;tram 0 0 0 0;tram 1 0 0 0;folk 0 1 2;folk 5 1 3;folk 6 3 0;tears 6 4;debt 6 4");
        dueFeigned(like, 5, 2, NONE, NONE, NONE, NONE);
    }

    void feignedAreFeltBehindThoseToldForTheirMinute() {
        // The told mood of minute 1 is spent first, the feigned one is left for when the tram comes again.
        NeededStop stop = Calls.told("rail 4;tram 0 1 1 0;folk 0 1 2;folk 1 1 3;tears 1 1");
        dueFeigned(stop, 0, 1, 3, 1, 3, NONE);
        stop.go(2);
        due("the told one is spent", stop.mood(0, 4), 1);
    }

    void feignedSoonerThanTold() {
        NeededStop stop = Calls.told("rail 4;tram 0 0 0 0;folk 0 1 3;tears 0 1;tears 0 10");
        due("as told, when the tram is at 3 once more", stop.home(0), 10);
        dueFeigned(stop, 0, 1, 4, 1, 4, NONE);
    }

    void feignedMoodsComeBesideFullOnes() {
        NeededStop stop = Calls.told("rail 4;nose 1 10;tram 0 0 0 0;folk 0 1 3;folk 1 2 3", lines("debt 1 1", 10), lines("debt 1 2", 10), lines("debt 1 3", 4));
        due("moods", stop.count(7), 24);
        dueFeigned(stop, 0, 2, 4, 2, 0, 4);
        dueFeigned(stop, 0, 1, NONE, NONE, NONE, NONE);
        due("moods still", stop.count(7), 24);
        due("a 25th", stop.mood(24, 0), UNKNOWN);
    }

    void feignedChangesNothing() {
        NeededStop stop = gone(3, "rail 4;tram 0 0 0 0;folk 0 1 3;tears 0 1");
        dueFeigned(stop, 0, 2, 4, 1, 4, NONE);
        due("moods", stop.count(7), 1);
        due("minutes", stop.count(8), 3);
        due("home", stop.home(0), NONE);
        stop.go(57);
        due("not homed", stop.person(0, 2), NONE);
        dueFeigned(stop, 0, 2, 4, 1, 4, NONE);
    }

    void feignedIsOfTheOneThatIsAsked() {
        NeededStop stop = Calls.told("rail 4;tram 0 0 0 0;folk 0 1 3;folk 6 0 3;folk 7 2 3");
        for (int i = 0; i < 2; i++) {
            dueFeigned(stop, 0, 2, 4, 2, 0, 4);
            dueFeigned(stop, 7, 2, 4, 2, 0, 4);
            dueFeigned(stop, 6, 2, 4, 2, 0, 4);
            dueFeigned(stop, 0, 1, NONE, NONE, NONE, NONE);
            dueFeigned(stop, 7, 1, NONE, NONE, NONE, NONE);
        }
        tell(stop, "tears 0 1");
        dueFeigned(stop, 0, 1, 4, 1, 4, NONE);
        dueFeigned(stop, 6, 1, NONE, NONE, NONE, NONE);
        dueFeigned(stop, 7, 1, NONE, NONE, NONE, NONE);
        dueFeigned(stop, 0, 1, 4, 1, 4, NONE);
    }

    void feignedIsSoughtAnewBehindATextOrADrawnMood() {
        NeededStop stop = Calls.told("rail 4;tram 0 0 0 0;folk 0 1 3");
        dueFeigned(stop, 0, 2, 4, 2, 0, 4);
        tell(stop, "tears 0 1");
        dueFeigned(stop, 0, 2, 4, 1, 4, NONE);
        tell(stop, "calm;nose 7 1");
        dueFeigned(stop, 0, 2, 4, 2, 1, 4);
        tell(stop, "rail 4;tram 0 1 0 0;folk 0 1 2;nose 2 10");
        dueFeigned(stop, 0, 1, NONE, NONE, NONE, NONE);
        // The mood that comes is laughter in minute 30: the tram halts at 1 in 30 or behind, then one feigned mood is enough.
        stop.drawn(2, 1);
        due("of laughter", stop.mood(0, 1), 1);
        due("one is enough now", stop.feigned(0, 1, 1), 1);
    }

    // ---- Promise 16: law

    void lawWhatIs0And1() {
        NeededStop stop = Calls.told(RIDE);
        dueRow("law", stop::law, 1, 4, OUTSIDE);
        dueBeyond("law", stop::law, 0, 1, OUTSIDE);
    }

    void lawOfNobody() {
        dueRow("law", new NeededStop()::law, 0, 0);
        dueRow("a tram alone", Calls.told("tram 0 0 0 0")::law, 0, 0);
    }

    void lawsByWhichNobodyIsHome() {
        dueRow("one", Calls.told("folk 0 1 3")::law, 0, 60);
        dueRow("all", Calls.told(ALL_FOLK)::law, 0, 480);
    }

    void lawIsTheLeastOfSeveral() {
        for (int kind = 0; kind < 3; kind++) {
            String moods = MOOD_WORDS[kind] + " 0 1;" + MOOD_WORDS[kind] + " 0 4";
            for (int kinds = 0; kinds <= 7; kinds += 7) {
                NeededStop stop = Calls.told("rail 4;nose " + kinds + " 9;tram 0 0 0 0;folk 0 1 3;" + moods);
                dueRow("KIND " + kind, stop::law, 1 << kind, 4);
                due("the nose stays", stop.count(1), kinds);
            }
        }
    }

    void lawOfAllKinds() {
        // Tears bring one aboard, laughter brings it home and the other aboard, debt brings that one home.
        dueRow("law", Calls.told("rail 4;nose 0 10;tram 0 0 0 0;folk 0 1 3;folk 1 3 0;tears 0 1;laughter 0 4;debt 1 8")::law, 7, 12);
    }

    void lawOfTheLastMinute() {
        dueRow("in 59", Calls.told(LATEST)::law, 1, 59);
        dueRow("too late", Calls.told(TOO_LATE)::law, 0, 60);
    }

    void lawHasTheSpanAsTold() {
        String told = "rail 4;tram 0 0 0 0;folk 0 1 3;tears 0 0;tears 0 4;nose 7 ";
        dueRow("span 1", Calls.told(told + 1)::law, 0, 60);
        dueRow("span 2", Calls.told(told + 2)::law, 1, 4);
    }

    // ---- Promise 17: worn

    void wornOfPlacesThatAreNotIsUnknown() {
        for (int l = 2; l <= 12; l++) {
            NeededStop stop = Calls.told("rail " + l);
            due("the last of " + l, stop.worn(l - 1), 0);
            due("the first", stop.worn(0), 0);
            dueBeyond("rail " + l, stop::worn, 0, l - 1, UNKNOWN);
        }
    }

    void wornAtBothEnds() {
        dueRow("rail 2", Calls.told("rail 2;tram 0 0 0 0;folk 0 0 1;tears 0 0;tears 0 2")::worn, 1, 1, UNKNOWN);
        dueRow("rail 12", Calls.told("rail 12;tram 0 11 0 1;folk 0 11 0;tears 0 0")::worn, 0, 0, 0, 0, 0, 0, 0, 0, 0, 0, 0, 1, UNKNOWN);
    }

    void wornByBothTrams() {
        due("worn", Calls.told("tram 0 1 0 0;tram 1 1 0 0;folk 0 1 3;tears 0 0;debt 0 0").worn(1), 2);
    }

    void wornInTheFirstAndTheLastMinute() {
        due("in 0", Calls.told("tram 0 1 0 0;folk 0 1 3;tears 0 0").worn(1), 1);
        due("in 59", Calls.told("tram 0 1 59 0;folk 0 1 3;tears 0 59").worn(1), 1);
    }

    void wornByAWholeDayWhateverHasGone() {
        NeededStop stop = gone(60, RIDE);
        dueRow("at the end", stop::worn, 0, 1, 0, 1);
        due("the day stays", stop.count(9), 2);
    }

    // ---- Promise 18: dry

    void dryWithoutHalts() {
        for (int l = 2; l <= 12; l++) {
            due("rail " + l, Calls.told("rail " + l + ";tram 0 0 0 0").dry(), (1 << l) - 1);
        }
    }

    void dryByBits() {
        due("no place", Calls.told("rail 2;tram 0 0 0 0;folk 0 0 1;tears 0 0;tears 0 2").dry(), 0);
        for (int place = 0; place < 12; place++) {
            String told = "rail 12;tram 0 " + place + " 0 0;folk 0 " + place + " " + (place + 1) % 12 + ";tears 0 0";
            due("all but " + place, Calls.told(told).dry(), 4095 - (1 << place));
        }
        due("a place worn twice", Calls.told("tram 0 1 0 0;tram 1 1 0 0;folk 0 1 3;tears 0 0;debt 0 0").dry(), 61);
    }

    void dryByAWholeDayWhateverHasGone() {
        NeededStop stop = Calls.told(RIDE);
        due("at the begin", stop.dry(), 5);
        stop.go(60);
        due("at the end", stop.dry(), 5);
    }

    // ---- Promise 19: last

    void lastWhatIs0To2() {
        NeededStop stop = Calls.told(RIDE);
        dueRow("last", stop::last, 1, 4, 1, OUTSIDE);
        dueBeyond("last", stop::last, 0, 2, OUTSIDE);
    }

    void lastOfNobodyIsNone() {
        NeededStop stop = new NeededStop();
        dueRow("last", stop::last, NONE, NONE, NONE, OUTSIDE);
        dueBeyond("OUTSIDE ahead of NONE", stop::last, 0, 2, OUTSIDE);
    }

    void lastAtBothEnds() {
        dueRow("at 0", Calls.told("rail 12;folk 0 0 11")::last, 0, 60, 1);
        dueRow("at 11", Calls.told("rail 12;folk 0 11 0")::last, 11, 60, 1);
    }

    void lastIsTheLeastOfSeveral() {
        dueRow("like ones", Calls.told("folk 0 5 0;folk 1 2 0;folk 2 2 1;folk 3 4 1")::last, 2, 60, 1);
        // Of the two at 1 one is home in 4, the other never: a greater sum, a lesser mean than that at 3.
        dueRow("means, not sums", Calls.told("rail 4;tram 0 0 0 0;folk 0 1 3;folk 1 1 2;folk 2 3 1;tears 0 1;tears 0 4;nose 7 1")::last, 3, 60, 1);
    }

    void lastIsInLowestTerms() {
        dueRow("120 of 2", Calls.told("folk 0 1 3;folk 1 1 3")::last, 1, 60, 1);
        dueRow("480 of 8", Calls.told(ALL_FOLK)::last, 1, 60, 1);
        dueRow("64 of 2", Calls.told("rail 4;nose 7 1;tram 0 0 0 0;folk 0 1 3;folk 1 1 2;tears 0 1;tears 0 4")::last, 1, 32, 1);
        dueRow("59 of 1", Calls.told(LATEST)::last, 1, 59, 1);
    }

    void lastMeansAreNotCut() {
        // One of 0 is home in 5; those of 2 are home in 4 and 7.
        NeededStop stop = Calls.told("rail 4;tram 0 0 0 0;tram 1 0 1 0;folk 0 0 3;folk 1 2 3;folk 2 2 1", "tears 1 2;tears 1 4;tears 2 7;tears 0 1;tears 0 5");
        dueRow("home", stop::home, 5, 4, 7);
        dueRow("last", stop::last, 2, 11, 2);
    }

    void lastByAWholeDayWhateverHasGone() {
        NeededStop stop = gone(60, RIDE);
        dueRow("last", stop::last, 1, 4, 1);
        due("the day stays", stop.count(8), 60);
    }

    // ---- Promise 20: fares

    void faresOfNobody() {
        due("nobody", new NeededStop().fares(), 0);
        due("no riders", Calls.told("tram 0 0 0 0;folk 0 1 3").fares(), 0);
    }

    void faresFrom0To99() {
        due("fare 0", Calls.told(RIDE + ";fare 0").fares(), 0);
        due("fare 1", Calls.told(RIDE + ";fare 1").fares(), 2);
        due("fare 99", Calls.told(RIDE + ";fare 99").fares(), 198);
    }

    void faresOfAllSeatsAllTheDay() {
        // Six get on in minute 0 and two aboard the other tram; all ride through minutes 1 .. 59.
        String trams = "seats 6;fare 99;tram 0 1 0 0;tram 1 1 0 0;tears 0 0;debt 0 0;nose 7 1";
        due("eight riders", Calls.told(ALL_FOLK, trams).fares(), 8 * 59 * 99);
    }

    void faresByAWholeDayWhateverHasGone() {
        NeededStop stop = Calls.told(RIDE);
        due("at the begin", stop.fares(), 10);
        stop.go(60);
        due("at the end", stop.fares(), 10);
        due("owed today", stop.person(0, 3), 10);
    }
}
