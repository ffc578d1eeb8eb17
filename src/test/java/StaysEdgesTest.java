/** The boundary cases of promises 40 to 46: the stays. */
public final class StaysEdgesTest {
    private static final String SET = "the set of rules, 1 to 255";
    private static final String NO_SET = "the set is out of range";
    private static final String FULL = "there are 12 stays";
    private static final String NO_DEADLINE = "there is no such deadline";

    public static void main(String[] args) {
        Edges.test(40, SET, () -> leastAndMostSet((clock, rules) -> clock.stayParty(0, rules)));
        Edges.test(40, "there is no such party", StaysEdgesTest::stayOfNoParty);
        Edges.test(40, NO_SET, () -> setOutOfRange((clock, rules) -> clock.stayParty(0, rules)));
        Edges.test(40, FULL, () -> stayThirteenIsRefused((clock, rules) -> clock.stayParty(0, rules)));
        Edges.test(41, "also for parties that are added later", StaysEdgesTest::stayForLaterParties);
        Edges.test(41, SET, () -> leastAndMostSet(TollClock::stayAll));
        Edges.test(41, NO_SET, () -> setOutOfRange(TollClock::stayAll));
        Edges.test(41, FULL, () -> stayThirteenIsRefused(TollClock::stayAll));
        Edges.test(42, "the present day minus the day on which it was ordered", StaysEdgesTest::noAndMostStoppedDays);
        Edges.test(42, "there is no such stay", StaysEdgesTest::liftNoStay);
        Edges.test(42, "it was lifted before", StaysEdgesTest::liftTwice);
        Edges.test(43, "stays that have not been lifted", StaysEdgesTest::inForceFromNoneToAll);
        Edges.test(44, "the day, 0 to 4999", StaysEdgesTest::stoppedOnFirstAndLastDay);
        Edges.test(44, NO_DEADLINE, () -> noDeadline((clock, deadline) -> clock.isStopped(deadline, 0)));
        Edges.test(44, "the day is out of range", StaysEdgesTest::stoppedOnNoDay);
        edgesOfRanges(45, TollClock::stoppedDays);
        edgesOfRanges(46, TollClock::stoppedDaysByMarking);
        Edges.test(46, "the same number", StaysEdgesTest::bothWaysCountTheSame);
        Edges.allTested(40, 46);
        Check.end();
    }

    interface OfNumber {
        Object answer(TollClock clock, int number);
    }

    interface OfRange {
        int count(TollClock clock, int deadline, int first, int last);
    }

    private static void edgesOfRanges(int promise, OfRange call) {
        Edges.test(promise, "the first day, 0 to 4999", () -> firstDay(call));
        Edges.test(promise, "the last day, 0 to 4999", () -> lastDay(call));
        Edges.test(promise, "both included", () -> bothIncluded(call));
        Edges.test(promise, NO_DEADLINE, () -> noDeadline((clock, deadline) -> call.count(clock, deadline, 0, 0)));
        Edges.test(promise, "a day is out of range", () -> noFirstOrLastDay(call));
        Edges.test(promise, "the last day is before the first day", () -> lastBeforeFirst(call));
    }

    private static TollClock withDeadlines(int count) {
        TollClock clock = Check.withParties("a");
        for (int rule = 0; rule < count; rule++) {
            clock.serve(0, rule % 8, 'p');
        }
        return clock;
    }

    private static void leastAndMostSet(OfNumber call) {
        TollClock clock = withDeadlines(8);
        Check.is("least", 0, call.answer(clock, 1));
        for (int rule = 0; rule < 8; rule++) {
            Check.is("rule " + rule + " by the set 1", rule == 0, clock.isStopped(rule, 1));
        }
        clock.undo();
        Check.is("the last rule alone", 0, call.answer(clock, 128));
        for (int rule = 0; rule < 8; rule++) {
            Check.is("rule " + rule + " by the set 128", rule == 7, clock.isStopped(rule, 1));
        }
        clock.undo();
        Check.is("most", 0, call.answer(clock, 255));
        for (int rule = 0; rule < 8; rule++) {
            Check.is("rule " + rule + " by the set 255", true, clock.isStopped(rule, 1));
        }
    }

    private static void stayOfNoParty() {
        TollClock clock = new TollClock();
        Edges.noIndex("party of none", 0, party -> clock.stayParty(party, 1));
        for (int count = 1; count <= 8; count++) {
            int parties = count;
            Check.party(clock, "p" + count);
            Check.fails("party " + count, IndexOutOfBoundsException.class, () -> clock.stayParty(parties, 1));
        }
        Edges.noIndex("party of eight", 8, party -> clock.stayParty(party, 1));
        Check.is("no stay by refusal", 0, clock.staysInForce());
        Check.is("the last party", 0, clock.stayParty(7, 1));
    }

    private static void setOutOfRange(OfNumber call) {
        TollClock clock = withDeadlines(8);
        Edges.outOfRange("set", 1, 255, rules -> call.answer(clock, rules));
        Check.fails("a ninth rule", IllegalArgumentException.class, () -> call.answer(clock, 256 + 1));
        Check.fails("a set of many", IllegalArgumentException.class, () -> call.answer(clock, 511));
        Check.is("no stay by refusal", 0, clock.staysInForce());
    }

    private static void stayThirteenIsRefused(OfNumber call) {
        TollClock clock = withDeadlines(1);
        for (int stay = 0; stay < 11; stay++) {
            Check.is("stay", stay, stay % 2 == 0 ? clock.stayAll(2) : clock.stayParty(0, 2));
        }
        Check.is("the last one", 11, call.answer(clock, 2));
        Check.fails("one more", IllegalStateException.class, () -> call.answer(clock, 1));
        clock.lift(0);
        clock.lift(11);
        Check.fails("one more, though two are lifted", IllegalStateException.class, () -> call.answer(clock, 1));
        Check.is("in force", 10, clock.staysInForce());
        Check.is("nothing is stopped by refusal", false, clock.isStopped(0, 1));
        clock.undo();
        clock.undo();
        clock.undo();
        Check.is("the last one again", 11, call.answer(clock, 1));
    }

    private static void stayForLaterParties() {
        TollClock clock = new TollClock();
        clock.stayAll(1);
        for (int party = 0; party < 8; party++) {
            Check.party(clock, "p" + party);
            clock.serve(party, 0, 'p');
            Check.is("party " + party, true, clock.isStopped(party, 1));
        }
    }

    private static void noAndMostStoppedDays() {
        TollClock clock = new TollClock();
        clock.stayAll(1);
        clock.stayAll(1);
        Check.is("on the same day", 0, clock.lift(0));
        Check.goTo(clock, 1500);
        clock.stayAll(1);
        Check.is("from the first to the last present day", 1500, clock.lift(1));
        Check.is("on the last present day", 0, clock.lift(2));
    }

    private static void liftNoStay() {
        TollClock clock = withDeadlines(1);
        Edges.noIndex("stay of none", 0, clock::lift);
        for (int count = 1; count <= 12; count++) {
            int stays = count;
            clock.stayAll(1);
            Check.fails("stay " + count, IndexOutOfBoundsException.class, () -> clock.lift(stays));
        }
        Edges.noIndex("stay of twelve", 12, clock::lift);
        Check.is("in force", 12, clock.staysInForce());
        Check.is("the last one", 0, clock.lift(11));
    }

    private static void liftTwice() {
        TollClock clock = withDeadlines(1);
        clock.stayAll(1);
        clock.stayAll(2);
        clock.lift(0);
        Check.fails("on the day of the order", IllegalStateException.class, () -> clock.lift(0));
        clock.advance(3);
        Check.fails("lifted days before", IllegalStateException.class, () -> clock.lift(0));
        Check.is("no day is stopped by refusal", 0, clock.stoppedDays(0, 0, 4999));
        Check.is("the other one", 3, clock.lift(1));
        Check.fails("on the same day", IllegalStateException.class, () -> clock.lift(1));
        Check.is("in force", 0, clock.staysInForce());
        clock.undo();
        Check.is("after undo", 3, clock.lift(1));
    }

    private static void inForceFromNoneToAll() {
        TollClock clock = withDeadlines(0);
        Check.is("none", 0, clock.staysInForce());
        for (int count = 1; count <= 12; count++) {
            clock.stayAll(1);
            Check.is("ordered", count, clock.staysInForce());
        }
        Check.goTo(clock, 1500);
        for (int count = 11; count >= 0; count--) {
            clock.lift(count);
            Check.is("lifted", count, clock.staysInForce());
        }
    }

    private static void stoppedOnFirstAndLastDay() {
        TollClock clock = withDeadlines(1);
        Check.is("last day without a stay", false, clock.isStopped(0, 4999));
        clock.stayAll(1);
        Check.is("first day, of the order", false, clock.isStopped(0, 0));
        Check.is("the day after the order", true, clock.isStopped(0, 1));
        Check.is("last day", true, clock.isStopped(0, 4999));
        clock.advance(1);
        clock.lift(0);
        Check.is("the day of the lifting", true, clock.isStopped(0, 1));
        Check.is("the day after the lifting", false, clock.isStopped(0, 2));
        Check.is("last day after the lifting", false, clock.isStopped(0, 4999));
    }

    private static void stoppedOnNoDay() {
        TollClock clock = withDeadlines(1);
        Edges.outOfDays("day", day -> clock.isStopped(0, day));
        clock.stayAll(1);
        Edges.outOfDays("day with a stay", day -> clock.isStopped(0, day));
    }

    private static void noDeadline(OfNumber call) {
        TollClock clock = withDeadlines(0);
        Edges.noIndex("deadline of none", 0, deadline -> call.answer(clock, deadline));
        for (int count = 1; count <= 30; count++) {
            clock.serve(0, 0, 'p');
        }
        Edges.noIndex("deadline of thirty", 30, deadline -> call.answer(clock, deadline));
        call.answer(clock, 29);
        clock.undo();
        Check.fails("an undone deadline", IndexOutOfBoundsException.class, () -> call.answer(clock, 29));
    }

    private static void firstDay(OfRange call) {
        TollClock clock = withDeadlines(1);
        clock.stayAll(1);
        Check.is("from 0", 1, call.count(clock, 0, 0, 1));
        Check.is("from 1", 1, call.count(clock, 0, 1, 1));
        Check.is("from 4999", 1, call.count(clock, 0, 4999, 4999));
        Check.is("all days", 4999, call.count(clock, 0, 0, 4999));
    }

    private static void lastDay(OfRange call) {
        TollClock clock = withDeadlines(1);
        Check.is("all days without a stay", 0, call.count(clock, 0, 0, 4999));
        clock.stayAll(1);
        Check.is("to 0", 0, call.count(clock, 0, 0, 0));
        Check.is("to 4998", 4998, call.count(clock, 0, 0, 4998));
        Check.is("to 4999", 4999, call.count(clock, 0, 0, 4999));
        Check.is("the last two", 2, call.count(clock, 0, 4998, 4999));
    }

    private static void bothIncluded(OfRange call) {
        TollClock clock = withDeadlines(1);
        clock.advance(9);
        clock.stayAll(1);                    // 10 to 12
        clock.advance(3);
        clock.lift(0);
        Check.is("the stopped days", 3, call.count(clock, 0, 10, 12));
        Check.is("one more on each side", 3, call.count(clock, 0, 9, 13));
        Check.is("its first day", 1, call.count(clock, 0, 9, 10));
        Check.is("its last day", 1, call.count(clock, 0, 12, 13));
        Check.is("its first day alone", 1, call.count(clock, 0, 10, 10));
        Check.is("its last day alone", 1, call.count(clock, 0, 12, 12));
        Check.is("up to the day before", 0, call.count(clock, 0, 0, 9));
        Check.is("from the day after", 0, call.count(clock, 0, 13, 4999));
        Check.is("in the middle", 1, call.count(clock, 0, 11, 11));
    }

    private static void noFirstOrLastDay(OfRange call) {
        TollClock clock = withDeadlines(1);
        clock.stayAll(1);
        Edges.outOfDays("first day", day -> call.count(clock, 0, day, 4999));
        Edges.outOfDays("last day", day -> call.count(clock, 0, 0, day));
        Edges.outOfDays("both days", day -> call.count(clock, 0, day, day));
    }

    private static void lastBeforeFirst(OfRange call) {
        TollClock clock = withDeadlines(1);
        clock.stayAll(1);
        int[][] ranges = {{1, 0}, {4999, 4998}, {4999, 0}, {64, 63}};
        for (int[] range : ranges) {
            Check.fails("from " + range[0] + " to " + range[1], IllegalArgumentException.class,
                    () -> call.count(clock, 0, range[0], range[1]));
            Check.is("from " + range[0] + " to itself", 1, call.count(clock, 0, range[0], range[0]));
        }
    }

    /** Stays that overlap, touch, hold one another and leave one day between. */
    private static void bothWaysCountTheSame() {
        TollClock clock = withDeadlines(2);
        int[][] stays = {{0, 64}, {10, 20}, {64, 65}, {66, 66}, {66, 128}, {129, 130}, {1499, 1500}};
        int[] changes = {0, 10, 20, 64, 65, 66, 128, 129, 130, 1499, 1500};
        for (int day : changes) {
            Check.goTo(clock, day);
            orderAndLift(clock, stays, day);
        }
        int[] days = {0, 1, 10, 11, 20, 63, 64, 65, 66, 67, 127, 128, 129, 130, 131, 1499, 1500, 1501, 4999};
        for (int first = 0; first < days.length; first++) {
            for (int last = first; last < days.length; last++) {
                Check.is("from " + days[first] + " to " + days[last], clock.stoppedDays(0, days[first], days[last]),
                        clock.stoppedDaysByMarking(0, days[first], days[last]));
            }
        }
        Check.is("another rule", 0, clock.stoppedDaysByMarking(1, 0, 4999));
    }

    private static void orderAndLift(TollClock clock, int[][] stays, int day) {
        for (int[] stay : stays) {
            if (stay[0] == day) {
                clock.stayAll(1);
            }
        }
        for (int number = 0; number < stays.length; number++) {
            if (stays[number][1] == day) {
                clock.lift(number);
            }
        }
    }
}
