/** The edges of a day: promises 8 to 13, and what a MINUTE is. */
public final class DayEdgesTest extends Edges {
    // The tram halts at 1 in minute 1 and at 3 in minute 4; the one rider is home then.
    private static final String RIDE = "rail 4;tram 0 0 0 0;folk 0 1 3;fare 5;tears 0 1;tears 0 4";

    public static void main(String[] args) throws IllegalAccessException {
        new DayEdgesTest().runAll();
    }

    // ---- Promise 8: go

    void goTakes1To60Minutes() {
        for (int n = 1; n <= 60; n++) {
            due("go " + n, new NeededStop().go(n), n);
        }
        NeededStop stop = new NeededStop();
        dueBeyond("go", stop::go, 1, 60, OUTSIDE);
        due("no minute went", stop.count(8), 0);
    }

    void goNoMoreThanAreLeft() {
        for (int n = 1; n <= 60; n++) {
            NeededStop stop = new NeededStop();
            stop.go(n);
            due("60 more than " + n, stop.go(60), 60);
            due("count(8)", stop.count(8), 60);
        }
    }

    void goAtTheEndChangesNothing() {
        NeededStop stop = gone(60, "rail 4;tram 0 0 0 0;folk 0 0 1;tears 0 0");
        int place = stop.tram(0, 0);
        int owed = stop.person(0, 3);
        due("go 1", stop.go(1), 60);
        due("go 60", stop.go(60), 60);
        due("OUTSIDE still", stop.go(61), OUTSIDE);
        due("the tram's place", stop.tram(0, 0), place);
        due("what is owed", stop.person(0, 3), owed);
    }

    void goByOnesIsGoByAll() {
        NeededStop ones = Calls.told(RIDE);
        NeededStop all = gone(60, RIDE);
        for (int t = 1; t <= 60; t++) {
            due("go 1", ones.go(1), t);
        }
        for (int what = 0; what < 4; what++) {
            due("tram", ones.tram(0, what), all.tram(0, what));
            due("person", ones.person(0, what), all.person(0, what));
        }
    }

    void minute59IsTheLast() {
        NeededStop stop = gone(59, "rail 4;tram 0 1 59 0;folk 0 1 3;tears 0 59");
        due("no halt ahead of it", stop.count(9), 0);
        due("go 1", stop.go(1), 60);
        due("a halt in it", stop.halt(0, 2), 59);
        due("aboard", stop.person(0, 1), 0);
        due("not homed", stop.person(0, 2), NONE);
    }

    // ---- Promise 9: tram

    void tramsThatAreNotToldAreUnknown() {
        NeededStop none = new NeededStop();
        dueBeyond("of none", tram -> none.tram(tram, 0), 0, -1, UNKNOWN);
        NeededStop zero = Calls.told("tram 0 3 0 0");
        due("tram 0", zero.tram(0, 0), 3);
        dueBeyond("of tram 0", tram -> zero.tram(tram, 0), 0, 0, UNKNOWN);
        NeededStop one = Calls.told("tram 1 3 0 0");
        due("tram 1", one.tram(1, 0), 3);
        dueBeyond("of tram 1", tram -> one.tram(tram, 0), 1, 1, UNKNOWN);
        NeededStop both = Calls.told("tram 1 3 0 0;tram 0 4 0 1");
        dueRow("of both", tram -> both.tram(tram, 0), 4, 3, UNKNOWN);
        dueBeyond("of both", tram -> both.tram(tram, 0), 0, 1, UNKNOWN);
    }

    void tramWhatIs0To3() {
        NeededStop stop = Calls.told("tram 0 3 0 1");
        dueRow("tram", what -> stop.tram(0, what), 3, 1, 0, 0, OUTSIDE);
        dueBeyond("tram", what -> stop.tram(0, what), 0, 3, OUTSIDE);
        dueBeyond("UNKNOWN ahead of OUTSIDE", what -> stop.tram(1, what), 0, 3, UNKNOWN);
    }

    void tramsWaitUntilTheyBegin() {
        NeededStop stop = gone(5, "tram 0 3 5 1;tram 1 3 0 1");
        due("place", stop.tram(0, 0), 3);
        due("way", stop.tram(0, 1), 1);
        stop.go(1);
        due("begun in 5", stop.tram(0, 0), 2);
        stop = gone(59, "tram 0 3 59 1");
        due("in 59", stop.tram(0, 0), 3);
        stop.go(1);
        due("behind 59", stop.tram(0, 0), 2);
    }

    void tramsDoNotHaltAheadOfTheirBegin() {
        String told = "rail 4;tram 0 1 5 0;folk 0 1 3;";
        NeededStop stop = gone(5, told + "tears 0 0");
        due("no halt", stop.count(9), 0);
        due("nobody aboard", stop.tram(0, 2), 0);
        stop.go(1);
        due("a halt in 5", stop.halt(0, 2), 5);
        due("felt in 4, span 1", Calls.told(told + "tears 0 4;nose 7 1").worn(1), 0);
        due("felt in 4, span 2", Calls.told(told + "tears 0 4;nose 7 2").worn(1), 1);
        due("felt in 5, span 1", Calls.told(told + "tears 0 5;nose 7 1").worn(1), 1);
    }

    void tramsTurnAtTheGreaterEnd() {
        for (int l = 2; l <= 12; l++) {
            NeededStop stop = gone(l - 1, "rail " + l + ";tram 0 0 0 0");
            due("at the end of " + l, stop.tram(0, 0), l - 1);
            due("still up", stop.tram(0, 1), 0);
            stop.go(1);
            due("one back", stop.tram(0, 0), l - 2);
            due("down", stop.tram(0, 1), 1);
        }
    }

    void tramsTurnAtTheLesserEnd() {
        for (int l = 2; l <= 12; l++) {
            NeededStop stop = gone(l - 1, "rail " + l + ";tram 1 " + (l - 1) + " 0 1");
            due("at 0 of " + l, stop.tram(1, 0), 0);
            due("still down", stop.tram(1, 1), 1);
            stop.go(1);
            due("one on", stop.tram(1, 0), 1);
            due("up", stop.tram(1, 1), 0);
        }
    }

    void tramsThatBeginAtAnEndTurnFirst() {
        for (int l = 2; l <= 12; l++) {
            NeededStop stop = gone(1, "rail " + l + ";tram 0 0 0 1;tram 1 " + (l - 1) + " 0 0");
            due("from 0 of " + l, stop.tram(0, 0), 1);
            due("up", stop.tram(0, 1), 0);
            due("from the end of " + l, stop.tram(1, 0), l - 2);
            due("down", stop.tram(1, 1), 1);
        }
    }

    void tramsThatHaltAtAnEndTurnWhenTheyLeave() {
        NeededStop stop = gone(1, "rail 4;tram 0 3 0 0;folk 0 3 0;tears 0 0");
        due("it halted", stop.tram(0, 3), 1);
        due("its way", stop.tram(0, 1), 0);
        stop.go(1);
        due("its place", stop.tram(0, 0), 2);
        due("its way", stop.tram(0, 1), 1);
    }

    void tramsHaltOnceSinceTheyCame() {
        // Three causes at 1: the tram halts there in 0, and each time it has come back.
        NeededStop stop = gone(60, "rail 4;tram 0 1 0 0;folk 0 1 3;" + lines("tears 0 0", 3));
        dueRow("minutes", i -> stop.halt(i, 2), 0, 5, 8, NONE);
        dueRow("places", i -> stop.halt(i, 1), 1, 1, 1, NONE);
        dueRow("moods", i -> stop.halt(i, 3), 0, 1, 2, NONE);
    }

    void tramsThatHaltAtOnceBothGoOn() {
        NeededStop stop = gone(1, "rail 4;tram 0 1 0 0;tram 1 1 0 0;folk 0 1 3;" + lines("tears 0 0", 4));
        due("both halted", stop.count(9), 2);
        stop.go(1);
        due("no more halts", stop.count(9), 2);
        dueRow("both went on", tram -> stop.tram(tram, 0), 2, 2);
    }

    void tramsHaltsAreTheirOwn() {
        NeededStop stop = gone(1, "rail 4;tram 0 1 0 0;tram 1 1 0 0;folk 0 1 3;tears 0 0");
        due("tram 0", stop.tram(0, 3), 1);
        due("tram 1", stop.tram(1, 3), 0);
        due("of today", stop.count(9), 1);
    }

    void tramsGoByNumbers() {
        NeededStop stop = gone(1, "rail 4;tram 1 1 0 0;tram 0 1 0 0;folk 0 1 3;tears 0 0");
        due("the first halts", stop.halt(0, 0), 0);
        due("the second went on", stop.tram(1, 0), 2);
        stop = gone(1, "rail 4;tram 1 1 0 0;tram 0 1 1 0;folk 0 1 3;tears 0 0");
        due("the first has not begun", stop.halt(0, 0), 1);
    }

    void aboardIsToldByBits() {
        for (int person = 0; person < 8; person++) {
            NeededStop stop = gone(1, "rail 4;tram 1 1 0 0;folk " + person + " 1 3;tears " + person + " 0");
            due("person " + person, stop.tram(1, 2), 1 << person);
        }
    }

    void seatsAre1To6ByNumbers() {
        for (int seats = 1; seats <= 6; seats++) {
            NeededStop stop = gone(1, ALL_FOLK, "tram 0 1 0 0;tears 7 0;seats " + seats);
            due(seats + " seats", stop.tram(0, 2), (1 << seats) - 1);
            due("the next waits", stop.person(seats, 1), NONE);
        }
    }

    void fullTramsHaltAndTakeNobody() {
        NeededStop stop = gone(3, "rail 4;seats 1;tram 0 0 0 0;folk 0 0 3;folk 1 1 3;tears 0 0;tears 1 2");
        due("halts", stop.count(9), 2);
        due("aboard", stop.tram(0, 2), 1);
        due("waits", stop.person(1, 1), NONE);
    }

    void seatsAreFreeOnceOneIsOff() {
        NeededStop stop = gone(3, "rail 4;seats 1;tram 0 1 0 0;folk 7 1 2;folk 0 2 3;tears 7 0;tears 7 2");
        due("off", stop.person(7, 2), 2);
        due("on", stop.tram(0, 2), 1);
    }

    void whoFindsNoSeatMayTakeTheOtherTram() {
        NeededStop stop = gone(1, "rail 4;seats 1;tram 0 1 0 0;tram 1 1 0 0;folk 0 1 3;folk 1 1 3;tears 0 0;tears 1 0");
        due("one", stop.tram(0, 2), 1);
        due("other", stop.tram(1, 2), 2);
    }

    // ---- Promise 10: person

    void peopleThatAreNotToldAreUnknown() {
        NeededStop none = new NeededStop();
        dueBeyond("of none", person -> none.person(person, 0), 0, -1, UNKNOWN);
        for (int told = 0; told < 8; told++) {
            NeededStop stop = Calls.told("folk " + told + " 4 5");
            for (int person = -1; person <= 8; person++) {
                due("person " + person + ", told " + told, stop.person(person, 0), person == told ? 4 : UNKNOWN);
            }
        }
        NeededStop all = Calls.told(ALL_FOLK);
        dueRow("of all", person -> all.person(person, 4), 3, 3, 3, 3, 3, 3, 3, 3, UNKNOWN);
        dueBeyond("of all", person -> all.person(person, 0), 0, 7, UNKNOWN);
    }

    void personWhatIs0To4() {
        NeededStop stop = Calls.told("folk 0 4 5");
        dueRow("person", what -> stop.person(0, what), 4, NONE, NONE, 0, 5, OUTSIDE);
        dueBeyond("person", what -> stop.person(0, what), 0, 4, OUTSIDE);
        dueBeyond("UNKNOWN ahead of OUTSIDE", what -> stop.person(1, what), 0, 4, UNKNOWN);
    }

    void personIsWhereItsTramIs() {
        NeededStop stop = gone(3, RIDE);
        dueRow("aboard", what -> stop.person(0, what), 2, 0, NONE, 5, 3);
        stop.go(1);
        dueRow("at the place of its home, aboard", what -> stop.person(0, what), 3, 0, NONE, 10, 3);
        stop.go(1);
        dueRow("home", what -> stop.person(0, what), 3, NONE, 4, 10, 3);
        due("aboard the second tram", gone(1, "tram 1 1 0 0;folk 0 1 3;tears 0 0").person(0, 1), 1);
    }

    void personGetsOffAtItsHomeAlone() {
        NeededStop stop = gone(3, "rail 4;tram 0 0 0 0;folk 0 0 2;nose 7 1;tears 0 0;tears 0 2");
        due("the tram halts", stop.halt(1, 1), 1);
        due("still aboard", stop.person(0, 1), 0);
    }

    void personPassesItsHomeWithoutAHalt() {
        NeededStop stop = gone(60, "rail 3;tram 0 0 0 0;folk 0 0 1;tears 0 0");
        due("not homed", stop.person(0, 2), NONE);
        due("owes each place", stop.person(0, 3), 59);
    }

    void personIsHomeForGood() {
        NeededStop stop = gone(60, "rail 2;tram 0 0 0 0;folk 0 0 1;tears 0 0;tears 0 2;tears 0 4");
        due("homed", stop.person(0, 2), 2);
        due("the tram halts at its home", stop.halt(2, 1), 1);
        due("nobody gets on", stop.tram(0, 2), 0);
        due("where", stop.person(0, 0), 1);
        due("owes", stop.person(0, 3), 1);
    }

    void personOwesFareForEachPlace() {
        due("nothing in the minute of the halt", gone(2, RIDE).person(0, 3), 0);
        due("fare 0", gone(60, RIDE + ";fare 0").person(0, 3), 0);
        due("fare 99", gone(60, RIDE + ";fare 99").person(0, 3), 198);
        due("fare 99 all the day", gone(60, "rail 3;fare 99;tram 0 0 0 0;folk 0 0 1;tears 0 0").person(0, 3), 5841);
    }

    // ---- what is a CAUSE

    void causesAreOfTheNosesKinds() {
        for (int kinds = 0; kinds <= 7; kinds++) {
            for (int kind = 0; kind < 3; kind++) {
                NeededStop stop = Calls.told("tram 0 1 0 0;folk 0 1 3;" + MOOD_WORDS[kind] + " 0 0;nose " + kinds + " 1");
                due("KINDS " + kinds + ", KIND " + kind, stop.worn(1), kinds >> kind & 1);
            }
        }
    }

    void causesAreAtMostSpanLess1MinutesOld() {
        for (int span = 1; span <= 30; span++) {
            String told = "folk 0 1 3;tears 0 4;nose 7 " + span + ";tram 0 1 ";
            due("span " + span + ", in time", Calls.told(told + (4 + span - 1) + " 0").worn(1), 1);
            due("span " + span + ", too late", Calls.told(told + (4 + span) + " 0").worn(1), 0);
            due("span " + span + ", ahead of it", Calls.told(told + "4 0").worn(1), 1);
        }
    }

    void causesSpentAreTheEldest() {
        NeededStop stop = gone(3, "rail 4;tram 0 2 2 0;folk 0 2 3;tears 0 2;tears 0 1;tears 0 0;tears 0 0");
        due("the eldest, of like ones the first", stop.halt(0, 3), 2);
        NeededStop stale = gone(3, "rail 4;nose 7 2;tram 0 2 2 0;folk 0 2 3;tears 0 2;tears 0 1;tears 0 0;tears 0 1");
        due("the eldest that is not too old", stale.halt(0, 3), 1);
        NeededStop other = gone(3, "rail 4;nose 4 9;tram 0 2 2 0;folk 0 2 3;debt 0 2;debt 0 1;tears 0 0;laughter 0 0");
        due("the eldest of the nose's kinds", other.halt(0, 3), 1);
    }

    void causesStayWhereTheyWereFelt() {
        // The rider has left 1 with the first tram when the second comes there.
        NeededStop stop = gone(60, "rail 4;tram 0 1 0 0;tram 1 1 3 0;folk 0 1 3;tears 0 0;tears 0 0");
        due("the second tram", stop.halt(1, 0), 1);
        due("its place", stop.halt(1, 1), 1);
        due("its minute", stop.halt(1, 2), 3);
        due("whose", stop.halt(1, 4), 0);
    }

    // ---- Promise 11: halt

    private static NeededStop dayOf24Halts() {
        // To and fro between two places, a mood each time: of who waits, is aboard or is home there.
        NeededStop stop = Calls.told("rail 2;nose 7 1;tram 1 0 0 0;folk 0 0 1;folk 1 1 0;tears 0 0;tears 1 2;tears 1 4");
        for (int t = 6; t < 48; t += 2) {
            Calls.writeText(stop, "tears " + (t % 4 == 0 ? 1 : 0) + " " + t);
            stop.rail();
        }
        return stop;
    }

    void haltsOfAFullDayAreAllTold() {
        NeededStop stop = dayOf24Halts();
        due("moods", stop.count(7), 24);
        stop.go(60);
        due("halts", stop.count(9), 24);
        due("of the tram", stop.tram(1, 3), 24);
        for (int i = 0; i < 24; i++) {
            due("its tram", stop.halt(i, 0), 1);
            due("its place", stop.halt(i, 1), i % 2);
            due("its minute", stop.halt(i, 2), 2 * i);
            due("its mood", stop.halt(i, 3), i);
            due("whose", stop.halt(i, 4), stop.mood(i, 0));
            due("spent", stop.mood(i, 4), 1);
        }
        due("a 25th", stop.halt(24, 0), NONE);
        due("worn", stop.worn(0) + stop.worn(1), 24);
    }

    void haltsThatWereNotAreNone() {
        NeededStop none = new NeededStop();
        for (int i : new int[] {0, 1, 23, 24, 25, 26, 60, GREATEST - 1, GREATEST}) {
            due("of none, " + i, none.halt(i, 0), NONE);
        }
        NeededStop two = gone(60, RIDE);
        dueRow("of two", i -> two.halt(i, 1), 1, 3, NONE, NONE);
        NeededStop ahead = gone(1, RIDE);
        due("not yet", ahead.halt(0, 0), NONE);
        ahead.go(1);
        due("in minute 1", ahead.halt(0, 2), 1);
        due("not yet the second", ahead.halt(1, 0), NONE);
    }

    void haltsBelow0AreOutside() {
        NeededStop stop = gone(60, RIDE);
        for (int i : new int[] {-1, -2, -32, LEAST, LEAST + 1}) {
            due("i " + i, stop.halt(i, 0), OUTSIDE);
            due("with a wrong what", stop.halt(i, 5), OUTSIDE);
        }
    }

    void haltWhatIs0To4() {
        NeededStop stop = gone(60, RIDE);
        dueRow("halt", what -> stop.halt(1, what), 0, 3, 4, 1, 0, OUTSIDE);
        dueBeyond("halt", what -> stop.halt(0, what), 0, 4, OUTSIDE);
        dueBeyond("OUTSIDE ahead of NONE", what -> stop.halt(2, what), 0, 4, OUTSIDE);
    }

    // ---- Promises 12 and 13: keep, back

    void keepTakes0And1() {
        NeededStop stop = gone(7, RIDE);
        due("keep 0", stop.keep(0), 7);
        stop.go(60);
        due("keep 1", stop.keep(1), 60);
        dueBeyond("keep", stop::keep, 0, 1, UNKNOWN);
        due("back 0", stop.back(0), 7);
        due("back 1", stop.back(1), 60);
        dueBeyond("back", stop::back, 0, 1, UNKNOWN);
    }

    void keepAtMinuteNought() {
        NeededStop stop = Calls.told(RIDE);
        due("keep", stop.keep(1), 0);
        stop.go(60);
        due("back", stop.back(1), 0);
        due("halts", stop.count(9), 0);
        due("the tram", stop.tram(0, 0), 0);
        due("not homed", stop.person(0, 2), NONE);
        due("not felt", stop.mood(0, 3), NONE);
        due("not spent", stop.mood(0, 4), 0);
    }

    void keepAnewTakesThePlaceOfTheOld() {
        NeededStop stop = gone(7, RIDE);
        stop.keep(0);
        stop.go(3);
        due("keep anew", stop.keep(0), 10);
        stop.go(5);
        due("back", stop.back(0), 10);
        due("the other is not kept", stop.back(1), NOT);
    }

    void backIsNotWhenNothingWasKept() {
        NeededStop stop = gone(7, RIDE);
        due("back 0", stop.back(0), NOT);
        due("back 1", stop.back(1), NOT);
        stop.keep(1);
        due("back 0 still", stop.back(0), NOT);
        due("back 1 now", stop.back(1), 7);
        due("UNKNOWN ahead of NOT", Calls.told(RIDE).back(2), UNKNOWN);
    }

    void backIsNotSinceAText() {
        NeededStop stop = gone(7, RIDE);
        stop.keep(0);
        stop.keep(1);
        Calls.writeText(stop, "fare 100");
        due("a text with a fault", stop.rail(), NOT);
        due("back 0", stop.back(0), 7);
        stop.erase();
        tell(stop, "calm");
        due("back 0", stop.back(0), NOT);
        due("back 1", stop.back(1), NOT);
        stop.keep(0);
        due("kept anew", stop.back(0), 0);
        due("the other is not", stop.back(1), NOT);
    }

    void backIsNotSinceADrawnMood() {
        NeededStop stop = Calls.told("folk 0 1 3");
        stop.keep(0);
        stop.keep(1);
        due("a refused one", stop.drawn(1, 25), OUTSIDE);
        due("back 0", stop.back(0), 0);
        due("drawn", stop.drawn(1, 24), 24);
        due("back 0", stop.back(0), NOT);
        stop.keep(1);
        due("a full one", stop.drawn(1, 1), FULL);
        due("back 1", stop.back(1), 0);
    }

    void backMayComeAgain() {
        NeededStop stop = gone(3, RIDE);
        stop.keep(0);
        for (int i = 1; i <= 3; i++) {
            stop.go(20 * i);
            due("back", stop.back(0), 3);
            dueRow("person", what -> stop.person(0, what), 2, 0, NONE, 5, 3);
            stop.go(2);
            due("homed as before", stop.person(0, 2), 4);
        }
    }

    void keptDaysAreApartFromToday() {
        NeededStop stop = gone(3, RIDE);
        stop.keep(0);
        stop.go(7);
        stop.keep(1);
        stop.back(0);
        stop.go(2);
        due("the other", stop.back(1), 10);
        due("its halts", stop.count(9), 2);
        due("the first again", stop.back(0), 3);
        due("its halts", stop.count(9), 1);
    }

    void keptDaysKnowThatATramHasHalted() {
        NeededStop stop = gone(1, "rail 4;tram 0 1 0 0;folk 0 1 3;tears 0 0;tears 0 0");
        stop.keep(0);
        stop.go(59);
        stop.back(0);
        stop.go(1);
        due("it goes on", stop.tram(0, 0), 2);
        NeededStop come = Calls.told("rail 4;tram 0 1 0 0;folk 0 1 3;tears 0 0");
        come.keep(0);
        come.go(1);
        come.back(0);
        come.go(1);
        due("it has not halted", come.tram(0, 3), 1);
    }

    void backLeavesTheTextAndWhatIsSeen() {
        NeededStop stop = gone(3, RIDE);
        stop.keep(0);
        stop.write(Calls.packed("fare 2"), 6);
        stop.seen(1, 1);
        stop.back(0);
        due("bytes", stop.count(11), 6);
        due("seen", stop.count(10), 1);
    }
}
