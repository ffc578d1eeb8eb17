import java.util.NoSuchElementException;

/** The boundary cases of promises 24 to 39: the deadlines. */
public final class DeadlinesEdgesTest {
    private static final String NO_DEADLINE = "there is no such deadline";
    private static final String NOT_OPEN = "the deadline is not open";
    private static final String NO_DUE_DAY = "there is no due day";
    private static final String DAYS_OUT_OF_RANGE = "the number of days is out of range";

    public static void main(String[] args) {
        edgesOfServing();
        edgesOfCounting();
        edgesOfConsent();
        edgesOfOrder();
        edgesOfEnding();
        edgesOfOverviews();
        Edges.allTested(24, 39);
        Check.end();
    }

    private static void edgesOfServing() {
        Edges.test(24, "which makes an open deadline", DeadlinesEdgesTest::newDeadlineIsOpen);
        Edges.test(24, "there is no such party", DeadlinesEdgesTest::servedOnNoParty);
        Edges.test(24, "no such rule", DeadlinesEdgesTest::servedByNoRule);
        Edges.test(24, "there is no such way of service", DeadlinesEdgesTest::servedInNoWay);
        Edges.test(24, "there are 30 deadlines", DeadlinesEdgesTest::deadlineThirtyOneIsRefused);
        Edges.test(25, "whether they are open or not", DeadlinesEdgesTest::endedDeadlinesAreCounted);
    }

    private static void edgesOfCounting() {
        Edges.test(26, NO_DEADLINE, () -> noDeadline(TollClock::due));
        Edges.test(26, NO_DUE_DAY, () -> noDueDay(TollClock::due));
        Edges.test(27, "Returns the same day", DeadlinesEdgesTest::bothWaysFindTheSameDay);
        Edges.test(27, NO_DEADLINE, () -> noDeadline(TollClock::dueByMarking));
        Edges.test(27, NO_DUE_DAY, () -> noDueDay(TollClock::dueByMarking));
        Edges.test(28, NO_DEADLINE, () -> noDeadline(TollClock::daysLeft));
        Edges.test(29, "Returns the same number", DeadlinesEdgesTest::bothWaysFindTheSameNumber);
        Edges.test(29, NO_DEADLINE, () -> noDeadline(TollClock::daysLeftByMarking));
    }

    private static void edgesOfConsent() {
        Edges.test(30, "the number of days that are granted, 1 to 28", DeadlinesEdgesTest::leastAndMostByConsent);
        Edges.test(30, NO_DEADLINE, () -> noDeadline((clock, deadline) -> clock.extendByConsent(deadline, 5)));
        Edges.test(30, DAYS_OUT_OF_RANGE, DeadlinesEdgesTest::daysOutOfRangeByConsent);
        Edges.test(30, NOT_OPEN, () -> notOpen((clock, deadline) -> clock.extendByConsent(deadline, 5)));
        Edges.test(30, "has a due day before the present day", DeadlinesEdgesTest::consentUntilTheDueDay);
        Edges.test(30, "has a due day before the present day", DeadlinesEdgesTest::consentWithoutADueDay);
        Edges.test(30, "has 2 extensions by consent", DeadlinesEdgesTest::thirdConsentIsRefused);
        Edges.test(30, "its extensions by consent would grant more than 28 days in total",
                DeadlinesEdgesTest::twentyEightDaysInTotal);
    }

    private static void edgesOfOrder() {
        Edges.test(31, "also if its due day is before the present day", DeadlinesEdgesTest::orderAfterTheDueDay);
        Edges.test(31, "the number of days that are granted, 1 to 100", DeadlinesEdgesTest::leastAndMostByOrder);
        Edges.test(31, NO_DEADLINE, () -> noDeadline((clock, deadline) -> clock.extendByOrder(deadline, 5)));
        Edges.test(31, DAYS_OUT_OF_RANGE, DeadlinesEdgesTest::daysOutOfRangeByOrder);
        Edges.test(31, NOT_OPEN, () -> notOpen((clock, deadline) -> clock.extendByOrder(deadline, 5)));
        Edges.test(31, "has 3 extensions by order", DeadlinesEdgesTest::fourthOrderIsRefused);
        Edges.test(32, "Returns the number of days.", DeadlinesEdgesTest::noAndMostExtensionDays);
        Edges.test(32, NO_DEADLINE, () -> noDeadline(TollClock::extensionDays));
    }

    private static void edgesOfEnding() {
        Edges.test(33, "The answer is late if the deadline has a due day before the present day, and in time otherwise.",
                DeadlinesEdgesTest::inTimeUntilTheDueDay);
        Edges.test(33, "in time otherwise", DeadlinesEdgesTest::inTimeWithoutADueDay);
        Edges.test(33, "Later changes do not affect that.", DeadlinesEdgesTest::laterChangesDoNotMatter);
        Edges.test(33, "true if the answer is in time, false if it is late", DeadlinesEdgesTest::answersOfFile);
        Edges.test(33, NO_DEADLINE, () -> noDeadline((clock, deadline) -> clock.file(deadline)));
        Edges.test(33, NOT_OPEN, () -> notOpen((clock, deadline) -> clock.file(deadline)));
        Edges.test(34, "which is not open any more", DeadlinesEdgesTest::struckIsNotOpen);
        Edges.test(34, "the number of open deadlines afterwards", DeadlinesEdgesTest::strikeDownToNone);
        Edges.test(34, NO_DEADLINE, () -> noDeadline(TollClock::strike));
        Edges.test(34, NOT_OPEN, () -> notOpen(TollClock::strike));
        Edges.test(35, "'o' if it is open, 't' if the answer was filed in time, 'l' if it was filed late, 's' if the"
                + " deadline was struck", DeadlinesEdgesTest::eachStatus);
        Edges.test(35, NO_DEADLINE, () -> noDeadline((clock, deadline) -> clock.status(deadline)));
    }

    private static void edgesOfOverviews() {
        Edges.test(36, "deadlines with earlier due days first", DeadlinesEdgesTest::earlierDueDaysFirst);
        Edges.test(36, "deadlines without due days last", DeadlinesEdgesTest::noDueDaysLast);
        Edges.test(36, "of several with the same due day or without due days the one with the lower number first",
                DeadlinesEdgesTest::lowerNumbersFirst);
        Edges.test(36, "the position, counted from 0", DeadlinesEdgesTest::firstAndLastPosition);
        Edges.test(36, "there is no such position", DeadlinesEdgesTest::noPosition);
        Edges.test(37, "open deadlines whose due day is before the present day", DeadlinesEdgesTest::overdueAfterTheDueDay);
        Edges.test(37, "open deadlines whose due day is before the present day", DeadlinesEdgesTest::overdueOfNoneAndAll);
        Edges.test(38, "of several days the earliest", DeadlinesEdgesTest::earliestOfTheBusiest);
        Edges.test(38, "no open deadline has a due day", DeadlinesEdgesTest::noBusiestDay);
        Edges.test(39, "both converted to double", DeadlinesEdgesTest::meanIsNotRounded);
        Edges.test(39, "there is no open deadline", DeadlinesEdgesTest::noMean);
    }

    interface OfDeadline {
        Object answer(TollClock clock, int deadline);
    }

    interface Ending {
        int day(TollClock clock, int deadline);
    }

    private static TollClock withDeadlines(int count) {
        TollClock clock = Check.withParties("a");
        clock.setRule(0, 4, false);
        for (int deadline = 0; deadline < count; deadline++) {
            clock.serve(0, 0, 'p');
        }
        return clock;
    }

    private static void newDeadlineIsOpen() {
        TollClock clock = withDeadlines(1);
        Check.is("first", 'o', clock.status(0));
        clock.strike(0);
        clock.serve(0, 0, 'p');
        Check.is("after a struck one", 'o', clock.status(1));
    }

    private static void servedOnNoParty() {
        TollClock clock = new TollClock();
        Edges.noIndex("party of none", 0, party -> clock.serve(party, 0, 'p'));
        for (int count = 1; count <= 8; count++) {
            int parties = count;
            Check.party(clock, "p" + count);
            Check.fails("party " + parties, IndexOutOfBoundsException.class, () -> clock.serve(parties, 0, 'p'));
        }
        Edges.noIndex("party of eight", 8, party -> clock.serve(party, 0, 'p'));
        Check.is("the last party", 0, clock.serve(7, 0, 'p'));
    }

    private static void servedByNoRule() {
        TollClock clock = withDeadlines(0);
        Edges.noIndex("rule", 8, rule -> clock.serve(0, rule, 'p'));
        Check.is("the last rule", 0, clock.serve(0, 7, 'p'));
    }

    private static void servedInNoWay() {
        TollClock clock = withDeadlines(0);
        char[] wrongWays = {0, ' ', 'P', 'b', 'd', 'l', 'n', 'o', 'q', 'p' + 256, 0xFFFF};
        for (char way : wrongWays) {
            Check.fails("way " + (int) way, IllegalArgumentException.class, () -> clock.serve(0, 0, way));
        }
        Check.is("no deadline by refusal", 0, clock.deadlines());
        String ways = "pema";
        for (int index = 0; index < 4; index++) {
            Check.is("way " + ways.charAt(index), index, clock.serve(0, 0, ways.charAt(index)));
        }
    }

    private static void deadlineThirtyOneIsRefused() {
        TollClock clock = withDeadlines(29);
        Check.is("the last one", 29, clock.serve(0, 7, 'a'));
        Check.fails("one more", IllegalStateException.class, () -> clock.serve(0, 0, 'p'));
        clock.strike(29);
        clock.file(0);
        Check.fails("one more, though some are not open", IllegalStateException.class, () -> clock.serve(0, 0, 'p'));
        Check.is("deadlines", 30, clock.deadlines());
        clock.undo();
        clock.undo();
        clock.undo();
        Check.is("the last one again", 29, clock.serve(0, 0, 'p'));
    }

    private static void endedDeadlinesAreCounted() {
        TollClock clock = withDeadlines(0);
        Check.is("none", 0, clock.deadlines());
        for (int count = 1; count <= 30; count++) {
            clock.serve(0, 0, 'p');
            if (count % 3 == 1) {
                clock.strike(count - 1);
            } else if (count % 3 == 2) {
                clock.file(count - 1);
            }
            Check.is("deadlines", count, clock.deadlines());
        }
    }

    private static void noDeadline(OfDeadline call) {
        TollClock clock = withDeadlines(0);
        Edges.noIndex("deadline of none", 0, deadline -> call.answer(clock, deadline));
        for (int count = 1; count <= 30; count++) {
            int deadlines = count;
            clock.serve(0, 0, 'p');
            Check.fails("deadline " + count, IndexOutOfBoundsException.class, () -> call.answer(clock, deadlines));
        }
        Edges.noIndex("deadline of thirty", 30, deadline -> call.answer(clock, deadline));
        clock.undo();
        Check.fails("an undone deadline", IndexOutOfBoundsException.class, () -> call.answer(clock, 29));
        call.answer(clock, 28);
        call.answer(clock, 0);
    }

    private static void notOpen(OfDeadline call) {
        TollClock clock = withDeadlines(4);
        clock.strike(0);
        clock.file(1);
        clock.advance(5);
        clock.file(2);
        for (int deadline = 0; deadline < 3; deadline++) {
            int number = deadline;
            Check.fails("status " + clock.status(deadline), IllegalStateException.class,
                    () -> call.answer(clock, number));
        }
        Check.is("still struck", 's', clock.status(0));
        Check.is("still in time", 't', clock.status(1));
        Check.is("still late", 'l', clock.status(2));
    }

    /** A stay takes the due day away, if it is ordered before the last counted day. */
    private static void noDueDay(Ending call) {
        TollClock clock = withDeadlines(1);
        clock.advance(3);
        clock.stayAll(1);
        Check.fails("stayed a day before", NoSuchElementException.class, () -> call.day(clock, 0));
        clock.undo();
        clock.advance(1);
        clock.stayAll(1);
        Check.is("stayed on the due day", 4, call.day(clock, 0));
        clock.addHoliday(4);
        Check.fails("the end cannot move to a stopped day", NoSuchElementException.class, () -> call.day(clock, 0));
        clock.lift(0);
        Check.is("lifted", 7, call.day(clock, 0));
        Check.goTo(clock, 1500);
        clock.stayAll(1);
        clock.extendByOrder(0, 100);
        clock.serve(0, 0, 'p');
        Check.is("before the stay", 107, call.day(clock, 0));
        Check.fails("after the stay", NoSuchElementException.class, () -> call.day(clock, 1));
    }

    private static TollClock withLongDeadlines() {
        TollClock clock = Check.withParties("a", "b");
        for (int rule = 0; rule < 8; rule++) {
            clock.setRule(rule, rule < 4 ? 1 : 200, rule % 2 == 1);
            clock.serve(rule % 2, rule, rule % 4 < 2 ? 'a' : 'p');
            clock.advance(3);
            clock.addHoliday(rule * 7 + 4);
            clock.stayParty(rule % 2, 1 << rule | 128);
            clock.advance(1 + rule);
            clock.lift(rule);
        }
        for (int deadline = 0; deadline < 8; deadline++) {
            clock.extendByOrder(deadline, 100);
            clock.extendByOrder(deadline, 1);
        }
        return clock;
    }

    private static void bothWaysFindTheSameDay() {
        TollClock clock = withLongDeadlines();
        for (int deadline = 0; deadline < 8; deadline++) {
            Check.is("due day of " + deadline, clock.due(deadline), clock.dueByMarking(deadline));
        }
    }

    private static void bothWaysFindTheSameNumber() {
        TollClock clock = withLongDeadlines();
        for (int step = 0; step < 10; step++) {
            for (int deadline = 0; deadline < 8; deadline++) {
                Check.is("days left of " + deadline, clock.daysLeft(deadline), clock.daysLeftByMarking(deadline));
            }
            clock.advance(1 + step * 13);
        }
    }

    private static void leastAndMostByConsent() {
        TollClock clock = withDeadlines(2);
        Check.is("least", 1, clock.extendByConsent(0, 1));
        Check.is("most", 28, clock.extendByConsent(1, 28));
        Check.is("most but one, after one", 28, clock.extendByConsent(0, 27));
    }

    private static void daysOutOfRangeByConsent() {
        TollClock clock = withDeadlines(1);
        Edges.outOfRange("days", 1, 28, days -> clock.extendByConsent(0, days));
        Check.is("nothing is granted", 0, clock.extensionDays(0));
    }

    private static void consentUntilTheDueDay() {
        TollClock clock = withDeadlines(2);
        clock.advance(4);
        Check.is("on the due day", 3, clock.extendByConsent(0, 3));
        clock.advance(1);
        Check.fails("a day later", IllegalStateException.class, () -> clock.extendByConsent(1, 3));
        Check.is("nothing is granted", 0, clock.extensionDays(1));
        Check.is("the other one has a later due day", 4, clock.extendByConsent(0, 1));
        clock.addHoliday(4);
        Check.is("its due day has moved", 3, clock.extendByConsent(1, 3));
    }

    private static void consentWithoutADueDay() {
        TollClock clock = withDeadlines(1);
        clock.stayAll(1);
        Check.goTo(clock, 1500);
        Check.is("first", 20, clock.extendByConsent(0, 20));
        Check.is("second", 28, clock.extendByConsent(0, 8));
    }

    private static void thirdConsentIsRefused() {
        TollClock clock = withDeadlines(2);
        clock.extendByConsent(0, 1);
        Check.is("second", 2, clock.extendByConsent(0, 1));
        Check.fails("third", IllegalStateException.class, () -> clock.extendByConsent(0, 1));
        Check.is("one by order", 3, clock.extendByOrder(0, 1));
        Check.fails("third after an order", IllegalStateException.class, () -> clock.extendByConsent(0, 1));
        for (int count = 0; count < 3; count++) {
            clock.extendByOrder(1, 1);
        }
        Check.is("first after three orders", 4, clock.extendByConsent(1, 1));
        Check.is("second after three orders", 5, clock.extendByConsent(1, 1));
    }

    private static void twentyEightDaysInTotal() {
        for (int first = 1; first <= 28; first += 9) {
            int most = 28 - first;
            TollClock clock = withDeadlines(1);
            clock.extendByOrder(0, 100);
            clock.extendByConsent(0, first);
            if (most < 28) {
                Check.fails("29 in total", UnsupportedOperationException.class, () -> clock.extendByConsent(0, most + 1));
            }
            Check.fails("most of all", UnsupportedOperationException.class, () -> clock.extendByConsent(0, 28));
            Check.is("nothing more is granted", 100 + first, clock.extensionDays(0));
            if (most > 0) {
                Check.is("28 in total", 128, clock.extendByConsent(0, most));
            }
        }
    }

    private static void orderAfterTheDueDay() {
        TollClock clock = withDeadlines(1);
        clock.advance(4);
        Check.is("on the due day", 1, clock.extendByOrder(0, 1));
        clock.undo();
        clock.advance(1);
        Check.is("a day later", 1, clock.extendByOrder(0, 1));
        Check.goTo(clock, 1500);
        Check.is("long after", 101, clock.extendByOrder(0, 100));
        Check.is("due day", 107, clock.due(0));
    }

    private static void leastAndMostByOrder() {
        TollClock clock = withDeadlines(1);
        Check.is("least", 1, clock.extendByOrder(0, 1));
        Check.is("most", 101, clock.extendByOrder(0, 100));
        Check.is("most again", 201, clock.extendByOrder(0, 100));
    }

    private static void daysOutOfRangeByOrder() {
        TollClock clock = withDeadlines(1);
        Edges.outOfRange("days", 1, 100, days -> clock.extendByOrder(0, days));
        Check.is("nothing is granted", 0, clock.extensionDays(0));
    }

    private static void fourthOrderIsRefused() {
        TollClock clock = withDeadlines(1);
        clock.extendByConsent(0, 1);
        clock.extendByConsent(0, 1);
        clock.extendByOrder(0, 1);
        clock.extendByOrder(0, 1);
        Check.is("third", 5, clock.extendByOrder(0, 1));
        Check.fails("fourth", IllegalStateException.class, () -> clock.extendByOrder(0, 1));
        Check.is("still three", 5, clock.extensionDays(0));
        clock.undo();
        Check.is("third again", 104, clock.extendByOrder(0, 100));
    }

    private static void noAndMostExtensionDays() {
        TollClock clock = withDeadlines(1);
        Check.is("none", 0, clock.extensionDays(0));
        for (int count = 1; count <= 3; count++) {
            clock.extendByOrder(0, 100);
        }
        clock.extendByConsent(0, 1);
        clock.extendByConsent(0, 27);
        Check.is("most", 328, clock.extensionDays(0));
    }

    private static void inTimeUntilTheDueDay() {
        TollClock clock = withDeadlines(3);
        clock.advance(3);
        Check.is("a day before", true, clock.file(0));
        clock.advance(1);
        Check.is("on the due day", true, clock.file(1));
        clock.advance(1);
        Check.is("a day later", false, clock.file(2));
    }

    private static void inTimeWithoutADueDay() {
        TollClock clock = withDeadlines(1);
        clock.advance(3);
        clock.stayAll(1);
        Check.goTo(clock, 1500);
        Check.is("no due day", true, clock.file(0));
        Check.is("status", 't', clock.status(0));
    }

    private static void laterChangesDoNotMatter() {
        TollClock clock = withDeadlines(2);
        clock.advance(4);
        clock.file(0);
        clock.advance(3);
        Check.is("late", false, clock.file(1));
        clock.addHoliday(4);
        Check.is("due on the present day now", 7, clock.due(1));
        Check.is("late stays late", 'l', clock.status(1));
        clock.undo();
        clock.advance(400);
        Check.is("in time stays in time", 't', clock.status(0));
    }

    private static void answersOfFile() {
        TollClock clock = withDeadlines(2);
        Check.is("in time", true, clock.file(0));
        clock.advance(5);
        Check.is("late", false, clock.file(1));
    }

    private static void struckIsNotOpen() {
        TollClock clock = withDeadlines(2);
        clock.strike(0);
        Check.is("status", 's', clock.status(0));
        Check.is("the only open one", 1, clock.openAt(0));
        Check.fails("no other", NoSuchElementException.class, () -> clock.openAt(1));
    }

    private static void strikeDownToNone() {
        TollClock clock = withDeadlines(30);
        for (int deadline = 29; deadline >= 0; deadline--) {
            Check.is("open after striking " + deadline, deadline, clock.strike(deadline));
        }
        TollClock filed = withDeadlines(3);
        filed.file(0);
        filed.file(1);
        Check.is("none after filing the others", 0, filed.strike(2));
    }

    private static void eachStatus() {
        TollClock clock = withDeadlines(4);
        clock.strike(3);
        clock.advance(4);
        Check.is("open on the due day", 'o', clock.status(0));
        clock.file(1);
        clock.advance(1);
        clock.file(2);
        Check.is("open after the due day", 'o', clock.status(0));
        Check.is("in time", 't', clock.status(1));
        Check.is("late", 'l', clock.status(2));
        Check.is("struck", 's', clock.status(3));
    }

    /** Deadlines of party 1 have no due day, those of party 0 the given lengths. */
    private static TollClock withLengths(int... lengths) {
        TollClock clock = Check.withParties("a", "b");
        clock.stayParty(1, 255);
        for (int length : lengths) {
            if (length > 0) {
                clock.setRule(0, length, false);
            }
            clock.serve(length > 0 ? 0 : 1, 0, 'p');
        }
        return clock;
    }

    private static void checkOrder(TollClock clock, int... order) {
        for (int position = 0; position < order.length; position++) {
            Check.is("position " + position, order[position], clock.openAt(position));
        }
        Check.fails("position behind the last", NoSuchElementException.class, () -> clock.openAt(order.length));
    }

    private static void earlierDueDaysFirst() {
        checkOrder(withLengths(4, 3, 2, 1), 3, 2, 1, 0);
        checkOrder(withLengths(2, 200, 1, 100), 2, 0, 3, 1);
    }

    private static void noDueDaysLast() {
        checkOrder(withLengths(-1, 4), 1, 0);
        checkOrder(withLengths(-1, 200, -1, 4, -1), 3, 1, 0, 2, 4);
        checkOrder(withLengths(-1, -1), 0, 1);
    }

    private static void lowerNumbersFirst() {
        checkOrder(withLengths(4, 4, 4), 0, 1, 2);
        checkOrder(withLengths(5, 4, 7, 4, 6), 1, 3, 0, 2, 4);   // 5 and 6 move to Monday 7
        TollClock clock = withLengths(4, 4, 4, -1, -1, -1);
        clock.strike(0);
        clock.file(4);
        checkOrder(clock, 1, 2, 3, 5);
    }

    private static void firstAndLastPosition() {
        TollClock clock = withDeadlines(30);
        Check.is("first", 0, clock.openAt(0));
        Check.is("last", 29, clock.openAt(29));
        Check.fails("behind the last", NoSuchElementException.class, () -> clock.openAt(30));
    }

    private static void noPosition() {
        int[] far = {-1, -2, Integer.MIN_VALUE, Integer.MAX_VALUE, 1 << 16, 1 << 30};
        for (int count = 0; count <= 3; count++) {
            TollClock clock = withDeadlines(count);
            int behind = count;
            Check.fails("position " + count, NoSuchElementException.class, () -> clock.openAt(behind));
            for (int position : far) {
                Check.fails("position " + position, NoSuchElementException.class, () -> clock.openAt(position));
            }
        }
        TollClock clock = withDeadlines(2);
        clock.strike(0);
        Check.is("the only open one", 1, clock.openAt(0));
        Check.fails("one is not open", NoSuchElementException.class, () -> clock.openAt(1));
        clock.file(1);
        Check.fails("none is open", NoSuchElementException.class, () -> clock.openAt(0));
    }

    private static void overdueAfterTheDueDay() {
        TollClock clock = withDeadlines(1);
        clock.advance(4);
        Check.is("on the due day", 0, clock.overdue());
        clock.advance(1);
        Check.is("a day later", 1, clock.overdue());
        clock.addHoliday(4);
        Check.is("its due day has moved", 0, clock.overdue());
        clock.stayAll(1);
        Check.goTo(clock, 1500);
        Check.is("no due day", 0, clock.overdue());
    }

    private static void overdueOfNoneAndAll() {
        TollClock clock = withDeadlines(0);
        Check.is("none", 0, clock.overdue());
        for (int count = 0; count < 30; count++) {
            clock.serve(0, 0, 'p');
        }
        clock.advance(5);
        Check.is("all", 30, clock.overdue());
        clock.strike(0);
        clock.file(29);
        Check.is("only the open ones", 28, clock.overdue());
    }

    private static void earliestOfTheBusiest() {
        Check.is("one alone", 3, withLengths(3).busiestDay());
        Check.is("the first and another", 3, withLengths(3, 3, 2).busiestDay());
        Check.is("the last and another", 3, withLengths(3, 2, 3).busiestDay());
        Check.is("thirty", 4, withDeadlines(30).busiestDay());
        Check.is("each day once", 1, withLengths(3, 2, 1).busiestDay());
        Check.is("two days twice", 2, withLengths(3, 2, 1, 3, 2).busiestDay());
        Check.is("the later one more often", 3, withLengths(2, 3, 3, 2, 3).busiestDay());
        Check.is("moved to the same day", 7, withLengths(4, 5, 6).busiestDay());
        Check.is("more without a due day", 8, withLengths(-1, 8, -1, 9).busiestDay());
    }

    private static void noBusiestDay() {
        Check.fails("no deadline", NoSuchElementException.class, () -> withLengths().busiestDay());
        Check.fails("none with a due day", NoSuchElementException.class, () -> withLengths(-1, -1).busiestDay());
        TollClock clock = withLengths(-1, 3, 3);
        clock.strike(1);
        Check.is("one left", 3, clock.busiestDay());
        clock.file(2);
        Check.fails("none open", NoSuchElementException.class, clock::busiestDay);
    }

    private static void meanIsNotRounded() {
        Check.is("of one", 4.0, withLengths(4).meanDaysLeft());
        Check.is("of thirty", 4.0, withDeadlines(30).meanDaysLeft());
        Check.is("halves", 1.5, withLengths(1, 2).meanDaysLeft());
        Check.is("thirds", 4.0 / 3.0, withLengths(1, 1, 2).meanDaysLeft());
        Check.is("thirds below one", 0.0 + 2.0 / 3.0, meanAfterOneDay());
        Check.is("without a due day", 115.5, withLengths(200, 200, 31, -1).meanDaysLeft());
    }

    private static double meanAfterOneDay() {
        TollClock clock = withLengths(1, 2, 2);
        clock.advance(1);
        return clock.meanDaysLeft();
    }

    private static void noMean() {
        Check.fails("no deadline", ArithmeticException.class, () -> withLengths().meanDaysLeft());
        TollClock clock = withDeadlines(2);
        clock.file(0);
        Check.is("one left", 4.0, clock.meanDaysLeft());
        clock.advance(400);
        Check.is("none of its days left", 0.0, clock.meanDaysLeft());
        clock.strike(1);
        Check.fails("none open", ArithmeticException.class, clock::meanDaysLeft);
    }
}
