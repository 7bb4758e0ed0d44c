/** The edges of what is read back: promises 21 to 25. */
public final class ReadBackEdgesTest extends Edges {
    private static final String RIDE = "rail 4;tram 0 0 0 0;folk 0 1 3;fare 5;tears 0 1;tears 0 4";

    public static void main(String[] args) throws IllegalAccessException {
        new ReadBackEdgesTest().runAll();
    }

    private static NeededStop saw(int place, int minute, String... texts) {
        NeededStop stop = Calls.told(texts);
        stop.seen(place, minute);
        return stop;
    }

    private static NeededStop sawEight() {
        NeededStop stop = new NeededStop();
        for (int i = 0; i < 8; i++) {
            stop.seen(0, 0);
        }
        return stop;
    }

    // ---- Promise 21: seen

    void seenPlacesAreThoseOfTheRail() {
        for (int l = 2; l <= 12; l++) {
            NeededStop stop = Calls.told("rail " + l);
            due("the first", stop.seen(0, 0), 1);
            due("the last of " + l, stop.seen(l - 1, 0), 2);
            dueBeyond("rail " + l, place -> stop.seen(place, 0), 0, l - 1, UNKNOWN);
            due("no more came", stop.count(10), 2);
        }
    }

    void seenMinutesAre0To59() {
        NeededStop stop = new NeededStop();
        due("minute 0", stop.seen(0, 0), 1);
        due("minute 59", stop.seen(0, 59), 2);
        dueBeyond("minute", minute -> stop.seen(0, minute), 0, 59, OUTSIDE);
        due("no more came", stop.count(10), 2);
    }

    void seenAre8AtMost() {
        NeededStop stop = new NeededStop();
        for (int i = 1; i <= 8; i++) {
            due("seen", stop.seen(i % 6, 7 * i), i);
            due("count(10)", stop.count(10), i);
        }
        due("a ninth", stop.seen(0, 0), FULL);
        due("again", stop.seen(5, 59), FULL);
        due("count(10)", stop.count(10), 8);
    }

    void seenTwiceIsTwo() {
        NeededStop stop = new NeededStop();
        due("once", stop.seen(3, 3), 1);
        due("twice", stop.seen(3, 3), 2);
    }

    void seenIsRefusedByTheFirstThatFits() {
        NeededStop stop = new NeededStop();
        due("UNKNOWN ahead of OUTSIDE", stop.seen(6, 60), UNKNOWN);
        due("UNKNOWN ahead of OUTSIDE, below", stop.seen(-1, -1), UNKNOWN);
        NeededStop full = sawEight();
        due("UNKNOWN ahead of FULL", full.seen(6, 0), UNKNOWN);
        due("OUTSIDE ahead of FULL", full.seen(0, 60), OUTSIDE);
        due("UNKNOWN ahead of both", full.seen(6, 60), UNKNOWN);
    }

    void seenAtAnyTimeOfTheDay() {
        NeededStop stop = gone(60, RIDE);
        due("at the end", stop.seen(1, 1), 1);
        due("laws", stop.read(0), 120);
        due("the day stays", stop.count(8), 60);
    }

    void seenNinthIsNotRead() {
        NeededStop stop = Calls.told(RIDE);
        for (int i = 0; i < 8; i++) {
            stop.seen(1, 1);
        }
        due("laws", stop.read(0), 120);
        due("a ninth that no law gives", stop.seen(0, 0), FULL);
        due("laws still", stop.read(0), 120);
    }

    // ---- Promise 22: forget

    void forgetAnswersHowManyThereWere() {
        due("none", new NeededStop().forget(), 0);
        NeededStop stop = sawEight();
        due("eight", stop.forget(), 8);
        due("again", stop.forget(), 0);
        due("count(10)", stop.count(10), 0);
        for (int i = 1; i <= 8; i++) {
            due("room again", stop.seen(0, 0), i);
        }
        due("full again", stop.seen(0, 0), FULL);
    }

    void forgetLeavesAllLaws() {
        NeededStop stop = saw(0, 0, RIDE);
        due("no law", stop.read(0), 0);
        stop.forget();
        dueRow("read", stop::read, 210, 1, 1);
    }

    void forgetLeavesTheDay() {
        NeededStop stop = gone(3, RIDE);
        stop.keep(0);
        stop.seen(1, 1);
        stop.forget();
        dueRow("count", stop::count, 4, 7, 10, 4, 5, 1, 1, 2, 3, 1, 0, 0);
        due("back(0)", stop.back(0), 3);
    }

    // ---- Promise 23: read

    void readWhatIs0To2() {
        NeededStop stop = new NeededStop();
        dueRow("read", stop::read, 210, 1, 1, OUTSIDE);
        dueBeyond("read", stop::read, 0, 2, OUTSIDE);
    }

    void readOfNothingSeenIsAllLaws() {
        dueRow("a new object", new NeededStop()::read, 210, 1, 1);
        dueRow("no kinds told", Calls.told(RIDE + ";nose 0 1")::read, 210, 1, 1);
    }

    void readOfNoLaw() {
        dueRow("no tram", saw(1, 1, "folk 0 1 3;tears 0 1")::read, 0, NONE, NONE);
        dueRow("no mood", saw(1, 1, "tram 0 0 0 0;folk 0 1 3")::read, 0, NONE, NONE);
        dueRow("another place", saw(2, 1, RIDE)::read, 0, NONE, NONE);
        dueRow("a minute too soon", saw(1, 0, RIDE)::read, 0, NONE, NONE);
        dueRow("a minute too late", saw(1, 2, RIDE)::read, 0, NONE, NONE);
    }

    void readHaltsOfTheFirstAndTheLastMinute() {
        dueRow("minute 0", saw(1, 0, "tram 0 1 0 0;folk 0 1 3;debt 0 0")::read, 120, 4, 1);
        dueRow("minute 59", saw(1, 59, "tram 0 1 59 0;folk 0 1 3;tears 0 59")::read, 120, 1, 1);
    }

    void readSpansFrom1To30() {
        for (int ago = 0; ago <= 30; ago++) {
            NeededStop stop = saw(1, 9 + ago, "tram 0 1 " + (9 + ago) + " 0;folk 0 1 3;laughter 0 9");
            boolean fits = ago < 30;
            dueRow(ago + " minutes ago", stop::read, 4 * (30 - ago), fits ? 2 : NONE, fits ? ago + 1 : NONE);
        }
    }

    void readKindsFrom1To7() {
        int[] first = {1, 2, 4};
        for (int kind = 0; kind < 3; kind++) {
            dueRow("KIND " + kind, saw(1, 0, "tram 0 1 0 0;folk 0 1 3;" + MOOD_WORDS[kind] + " 0 0")::read, 120, first[kind], 1);
        }
        NeededStop all = Calls.told("rail 4;tram 0 1 0 0;folk 0 1 3;tears 0 0;laughter 0 2;debt 0 4");
        all.seen(1, 0);
        all.seen(2, 2);
        all.seen(3, 4);
        dueRow("all kinds are needed", all::read, 30, 7, 1);
    }

    void readHaltsBySomeTram() {
        dueRow("the second", saw(1, 0, "tram 1 1 0 0;folk 0 1 3;tears 0 0")::read, 120, 1, 1);
        NeededStop both = Calls.told("tram 0 1 0 0;tram 1 2 0 0;folk 0 1 3;folk 1 2 3;tears 0 0;tears 1 0");
        both.seen(1, 0);
        both.seen(2, 0);
        dueRow("one each", both::read, 120, 1, 1);
    }

    void readNeedsEachThatWasSeen() {
        for (int wrong = 0; wrong < 8; wrong++) {
            NeededStop stop = Calls.told(RIDE);
            for (int i = 0; i < 8; i++) {
                stop.seen(i == wrong ? 2 : i % 2 == 0 ? 1 : 3, i % 2 == 0 ? 1 : 4);
            }
            due("all but the one of " + wrong, stop.read(0), 0);
        }
        NeededStop stop = Calls.told(RIDE);
        for (int i = 0; i < 8; i++) {
            stop.seen(i % 2 == 0 ? 1 : 3, i % 2 == 0 ? 1 : 4);
        }
        due("each", stop.read(0), 120);
    }

    void readMayHaveMoreHaltsThanWereSeen() {
        dueRow("one of two", saw(3, 4, RIDE)::read, 120, 1, 1);
    }

    void readLeavesTheNose() {
        NeededStop stop = saw(1, 1, RIDE + ";nose 6 20");
        due("laws", stop.read(0), 120);
        dueRow("count", what -> stop.count(1 + what), 6, 20);
        due("as told, no halt", stop.dry(), 15);
    }

    void readIsDoneAnewWhenMoreIsKnown() {
        NeededStop stop = Calls.told("rail 4;tram 0 1 0 0;folk 0 1 3;tears 0 0;debt 0 3");
        due("nothing seen", stop.read(0), 210);
        stop.seen(1, 0);
        due("one", stop.read(0), 120);
        stop.seen(3, 3);
        due("two", stop.read(0), 60);
        due("its kinds", stop.read(1), 5);
        stop.seen(0, 0);
        due("three", stop.read(0), 0);
        tell(stop, "calm");
        due("a text", stop.read(0), 210);
        // The mood that is drawn is laughter in minute 30, and the tram is at 1 in minute 30.
        tell(stop, "tram 0 1 30 0");
        stop.seen(1, 30);
        due("no mood", stop.read(0), 0);
        stop.drawn(2, 1);
        dueRow("a drawn mood", stop::read, 120, 2, 1);
    }

    // ---- Promise 24: odds

    void oddsKindsAre0To2() {
        NeededStop stop = new NeededStop();
        dueRow("above", kind -> stop.odds(kind, 0), 4, 4, 4, OUTSIDE);
        dueRow("below", kind -> stop.odds(kind, 1), 7, 7, 7, OUTSIDE);
        dueBeyond("kind", kind -> stop.odds(kind, 0), 0, 2, OUTSIDE);
    }

    void oddsPartsAre0And1() {
        NeededStop stop = new NeededStop();
        dueRow("part", part -> stop.odds(2, part), 4, 7, OUTSIDE);
        dueBeyond("part", part -> stop.odds(0, part), 0, 1, OUTSIDE);
    }

    void oddsAreNotWhereNoLawFits() {
        NeededStop stop = saw(0, 0, RIDE);
        for (int kind = 0; kind < 3; kind++) {
            due("above", stop.odds(kind, 0), NOT);
            due("below", stop.odds(kind, 1), NOT);
        }
        dueBeyond("OUTSIDE ahead of NOT, kind", kind -> stop.odds(kind, 0), 0, 2, OUTSIDE);
        dueBeyond("OUTSIDE ahead of NOT, part", part -> stop.odds(0, part), 0, 1, OUTSIDE);
        stop.forget();
        due("all laws again", stop.odds(0, 1), 7);
    }

    void oddsOfNoughtAndOneAreInLowestTerms() {
        // With tears the tram halts at 1 first, and is at 2 a minute later than was seen.
        NeededStop stop = saw(2, 2, "rail 12;tram 0 0 0 0;folk 0 2 5;folk 1 1 5;debt 0 0;tears 1 0");
        dueRow("read", stop::read, 56, 4, 3);
        dueRow("tears", part -> stop.odds(0, part), 0, 1);
        dueRow("laughter", part -> stop.odds(1, part), 1, 2);
        dueRow("debt", part -> stop.odds(2, part), 1, 1);
    }

    void oddsHaveAllLawsAlike() {
        // A debt that is one minute old or tears of the minute: 120 laws with tears, 58 with debt alone.
        NeededStop stop = saw(1, 1, "tram 0 1 1 0;folk 0 1 3;debt 0 0;tears 0 1");
        dueRow("read", stop::read, 178, 1, 1);
        dueRow("tears", part -> stop.odds(0, part), 60, 89);
        dueRow("laughter", part -> stop.odds(1, part), 1, 2);
        dueRow("debt", part -> stop.odds(2, part), 59, 89);
        stop.seen(1, 1);
        dueRow("tears, the halt seen again", part -> stop.odds(0, part), 60, 89);
        stop.forget();
        dueRow("tears, nothing seen", part -> stop.odds(0, part), 4, 7);
    }

    // ---- Promise 25: count

    void countWhatIs0To11() {
        NeededStop stop = new NeededStop();
        dueRow("count", stop::count, 6, 7, 10, 4, 1, 0, 0, 0, 0, 0, 0, 0, OUTSIDE);
        dueBeyond("count", stop::count, 0, 11, OUTSIDE);
    }

    void countOfAllThatIsFull() {
        NeededStop stop = Calls.told("rail 12;nose 7 30;seats 6;fare 99;tram 0 11 59 1;tram 1 11 59 1", ALL_FOLK);
        stop.drawn(9999, 24);
        stop.go(60);
        Calls.writeText(stop, " ".repeat(200));
        for (int i = 0; i < 8; i++) {
            stop.seen(11, 59);
        }
        dueRow("count", stop::count, 12, 7, 30, 6, 99, 3, 255, 24, 60, 0, 8, 200, OUTSIDE);
    }

    void countOfAllThatIsLeast() {
        NeededStop stop = Calls.told("rail 2;nose 0 1;seats 1;fare 0");
        dueRow("count", stop::count, 2, 0, 1, 1, 0, 0, 0, 0, 0, 0, 0, 0, OUTSIDE);
    }

    void countOfTramsAndPeopleIsByBits() {
        for (int k = 0; k < 2; k++) {
            due("tram " + k, Calls.told("tram " + k + " 0 0 0").count(5), 1 << k);
        }
        for (int p = 0; p < 8; p++) {
            due("person " + p, Calls.told("folk " + p + " 0 1").count(6), 1 << p);
        }
        due("told twice", Calls.told("folk 3 0 1;folk 3 1 0").count(6), 8);
    }

    void countOfMinutesAndHaltsIsOfToday() {
        NeededStop stop = Calls.told(RIDE);
        stop.keep(0);
        stop.home(0);
        due("no halts by what is foretold", stop.count(9), 0);
        stop.go(2);
        due("minutes", stop.count(8), 2);
        due("halts", stop.count(9), 1);
        stop.back(0);
        due("minutes", stop.count(8), 0);
        due("halts", stop.count(9), 0);
    }
}
