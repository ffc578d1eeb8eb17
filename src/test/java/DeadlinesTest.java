import java.util.NoSuchElementException;

/** Promises 24 to 39: the deadlines. */
public final class DeadlinesTest {
    public static void main(String[] args) {
        promise24Serve();
        promise24KeepsWhatItWas();
        promise25Deadlines();
        promises26And27Due();
        promises26And27CourtDaysAndMoves();
        promises26And27Stays();
        promises26And27MoveOverStays();
        promises26And27LastDay();
        promises28And29DaysLeft();
        promises28And29StopsAndMoves();
        promise30ExtendByConsent();
        promise30OrderOfRefusals();
        promise31ExtendByOrder();
        promise32ExtensionDays();
        promise33File();
        promise34Strike();
        promise35Status();
        promise36OpenAt();
        promise37Overdue();
        promise38BusiestDay();
        promise39MeanDaysLeft();
        Check.end();
    }

    private static void promise24Serve() {
        TollClock clock = Check.withParties("a", "b");
        Check.is("first", 0, clock.serve(0, 0, 'p'));
        Check.is("second", 1, clock.serve(1, 7, 'a'));
        Check.is("third", 2, clock.serve(0, 3, 'e'));
        int[][] wrong = {{2, 0}, {-1, 0}, {0, 8}, {0, -1}};
        for (int[] pair : wrong) {
            Check.fails("wrong party or rule", IndexOutOfBoundsException.class,
                    () -> clock.serve(pair[0], pair[1], 'x'));
        }
        Check.fails("wrong way", IllegalArgumentException.class, () -> clock.serve(0, 0, 'x'));
        for (int number = 3; number < 30; number++) {
            Check.is("deadline", number, clock.serve(1, number % 8, 'm'));
        }
        Check.fails("deadline 30", IllegalStateException.class, () -> clock.serve(0, 0, 'p'));
        Check.fails("deadline 30, wrong way", IllegalArgumentException.class, () -> clock.serve(0, 0, 'q'));
        Check.fails("deadline 30, wrong rule", IndexOutOfBoundsException.class, () -> clock.serve(0, 8, 'p'));
        Check.is("deadlines", 30, clock.deadlines());
    }

    private static void promise24KeepsWhatItWas() {
        TollClock clock = Check.withParties("a");
        clock.setRule(0, 7, false);
        clock.serve(0, 0, 'm');
        clock.setRule(0, 3, true);
        clock.setServiceDays('m', 0);
        checkDue(clock, 0, 10);
        Check.is("days left", 10, clock.daysLeft(0));
        clock.serve(0, 0, 'm');
        checkDue(clock, 1, 3);
        clock.advance(1);
        clock.serve(0, 0, 'm');
        checkDue(clock, 2, 4);
    }

    private static void promise25Deadlines() {
        TollClock clock = Check.withParties("a");
        Check.is("none", 0, clock.deadlines());
        clock.serve(0, 0, 'p');
        clock.serve(0, 0, 'p');
        Check.is("two", 2, clock.deadlines());
        clock.strike(0);
        clock.file(1);
        Check.is("two that are not open", 2, clock.deadlines());
    }

    private static void promises26And27Due() {
        TollClock clock = Check.withParties("a");
        clock.setRule(0, 4, false);
        clock.serve(0, 0, 'p');
        checkDue(clock, 0, 4);               // Friday
        clock.setRule(0, 5, false);
        clock.serve(0, 0, 'p');
        checkDue(clock, 1, 7);               // Saturday 5 moves to Monday 7
        clock.serve(0, 0, 'e');
        checkDue(clock, 2, 8);               // one day after the moved end
        clock.setServiceDays('e', 5);
        clock.serve(0, 0, 'e');
        checkDue(clock, 3, 14);              // Saturday 12 moves to Monday 14
        clock.addHoliday(7);
        checkDue(clock, 1, 8);
        checkDue(clock, 2, 9);
        clock.addHoliday(4);
        checkDue(clock, 0, 8);
        clock.extendByOrder(0, 1);
        checkDue(clock, 0, 9);
        clock.extendByConsent(0, 3);
        checkDue(clock, 0, 14);
        int[] wrong = {-1, 4, Integer.MIN_VALUE};
        for (int deadline : wrong) {
            Check.fails("due " + deadline, IndexOutOfBoundsException.class, () -> clock.due(deadline));
            Check.fails("marked due " + deadline, IndexOutOfBoundsException.class,
                    () -> clock.dueByMarking(deadline));
        }
    }

    private static void promises26And27CourtDaysAndMoves() {
        TollClock clock = Check.withParties("a");
        clock.setRule(1, 5, true);
        clock.serve(0, 1, 'p');
        checkDue(clock, 0, 7);
        clock.addHoliday(5);                 // a holiday on a Saturday takes no court day
        checkDue(clock, 0, 7);
        clock.addHoliday(2);
        checkDue(clock, 0, 8);
        clock.setRule(1, 200, true);
        clock.serve(0, 1, 'p');
        checkDue(clock, 1, 281);
        clock.serve(0, 1, 'a');              // Tuesday 281 and 14 calendar days
        checkDue(clock, 2, 295);
        for (int day = 8; day < 40; day++) {
            clock.addHoliday(day);
        }
        checkDue(clock, 0, 42);              // 40 and 41 are a Saturday and a Sunday
    }

    private static void promises26And27Stays() {
        TollClock clock = Check.withParties("a", "b");
        clock.setRule(0, 4, false);
        clock.setRule(1, 5, false);
        clock.serve(0, 0, 'p');
        clock.serve(1, 0, 'p');
        clock.serve(0, 1, 'p');
        clock.advance(3);
        clock.stayParty(0, 1);
        checkNoDue(clock, 0);
        checkDue(clock, 1, 4);
        checkDue(clock, 2, 7);
        clock.advance(3);
        clock.lift(0);
        checkDue(clock, 0, 7);               // days 4 to 6 are stopped
        clock.advance(1);
        clock.stayAll(2);
        checkDue(clock, 2, 7);               // the stay begins on day 8
        clock.addHoliday(7);
        checkNoDue(clock, 2);                // the end cannot move on: every later day is stopped
        clock.advance(4);
        clock.lift(1);
        checkDue(clock, 2, 14);              // 8 to 11 stopped, 12 and 13 no court days
        clock.addHoliday(14);
        checkDue(clock, 2, 15);
        clock.stayAll(255);
        clock.lift(2);                       // it stops nothing
        checkDue(clock, 2, 15);
    }

    private static void promises26And27MoveOverStays() {
        TollClock clock = Check.withParties("a");
        clock.setRule(0, 5, false);
        clock.serve(0, 0, 'p');
        clock.advance(5);
        clock.stayAll(1);
        clock.advance(2);
        clock.lift(0);                       // 6 and 7
        clock.stayAll(1);
        clock.advance(2);
        clock.lift(1);                       // 8 and 9, with no gap between
        checkDue(clock, 0, 10);
        clock.addHoliday(10);
        clock.advance(1);
        clock.stayAll(1);
        clock.advance(1);
        clock.lift(2);                       // 11
        checkDue(clock, 0, 14);              // 10 a holiday, 12 and 13 no court days
        clock.stayAll(1);
        clock.advance(4);
        clock.stayAll(1);
        clock.lift(3);                       // 12 to 15, the other one onwards
        checkNoDue(clock, 0);
        checkLeft(clock, 0, 0);
    }

    private static void promises26And27LastDay() {
        TollClock clock = Check.withParties("a");
        clock.setRule(0, 1, false);
        clock.serve(0, 0, 'p');
        checkDue(clock, 0, 1);
        clock.addHoliday(1);
        checkDue(clock, 0, 2);
        clock.stayAll(255);
        checkNoDue(clock, 0);
        Check.goTo(clock, 1500);
        clock.serve(0, 0, 'p');
        checkNoDue(clock, 1);
        clock.lift(0);
        checkDue(clock, 0, 1501);
        checkDue(clock, 1, 1501);
        for (int count = 0; count < 3; count++) {
            clock.extendByOrder(0, 100);
        }
        checkDue(clock, 0, 1803);            // Saturday 1601 moves to 1603; then 1703 and 1803
    }

    private static void promises28And29DaysLeft() {
        TollClock clock = Check.withParties("a");
        clock.setRule(0, 5, false);
        clock.setRule(1, 5, true);
        clock.serve(0, 0, 'm');
        clock.serve(0, 1, 'm');
        checkLeft(clock, 0, 8);
        checkLeft(clock, 1, 8);
        int[] calendarLeft = {7, 6, 5, 4, 3, 3, 3, 2, 1, 0, 0, 0};
        int[] courtLeft = {7, 6, 5, 4, 4, 4, 3, 2, 1, 0, 0, 0};
        for (int step = 0; step < calendarLeft.length; step++) {
            clock.advance(1);
            checkLeft(clock, 0, calendarLeft[step]);
            checkLeft(clock, 1, courtLeft[step]);
        }
        clock.extendByOrder(0, 10);
        checkLeft(clock, 0, 8);              // its end was day 10: the days 11 and 12 count
        clock.strike(0);
        checkLeft(clock, 0, 8);
        int[] wrong = {-1, 2};
        for (int deadline : wrong) {
            Check.fails("left " + deadline, IndexOutOfBoundsException.class, () -> clock.daysLeft(deadline));
            Check.fails("marked left " + deadline, IndexOutOfBoundsException.class,
                    () -> clock.daysLeftByMarking(deadline));
        }
    }

    private static void promises28And29StopsAndMoves() {
        TollClock clock = Check.withParties("a");
        clock.setRule(0, 5, false);
        clock.serve(0, 0, 'm');
        clock.advance(2);
        clock.stayAll(1);
        clock.advance(5);
        checkLeft(clock, 0, 6);
        checkNoDue(clock, 0);
        clock.lift(0);
        clock.advance(3);
        checkLeft(clock, 0, 3);
        clock.addHoliday(10);                // the base part ends on 10 and moves to 11
        checkLeft(clock, 0, 3);
        clock.advance(1);
        checkLeft(clock, 0, 3);
        clock.advance(2);
        checkLeft(clock, 0, 1);
        clock.removeHoliday(10);
        checkLeft(clock, 0, 0);
    }

    private static void promise30ExtendByConsent() {
        TollClock clock = Check.withParties("a");
        clock.setRule(0, 4, false);
        clock.serve(0, 0, 'p');
        clock.serve(0, 0, 'p');
        clock.serve(0, 0, 'p');
        Check.is("20", 20, clock.extendByConsent(0, 20));
        Check.fails("29 in all", UnsupportedOperationException.class, () -> clock.extendByConsent(0, 9));
        Check.is("30 by order", 50, clock.extendByOrder(0, 30));
        Check.is("28 in all", 58, clock.extendByConsent(0, 8));
        Check.fails("third", IllegalStateException.class, () -> clock.extendByConsent(0, 1));
        Check.is("28 at once", 28, clock.extendByConsent(1, 28));
        Check.fails("29", UnsupportedOperationException.class, () -> clock.extendByConsent(1, 1));
        checkDue(clock, 1, 32);
        clock.advance(4);
        Check.is("on the due day", 1, clock.extendByConsent(2, 1));
        clock.undo();
        clock.advance(1);
        Check.fails("after the due day", IllegalStateException.class, () -> clock.extendByConsent(2, 1));
        clock.stayAll(1);
        Check.fails("after the due day, stayed", IllegalStateException.class,
                () -> clock.extendByConsent(2, 1));
    }

    private static void promise30OrderOfRefusals() {
        TollClock clock = Check.withParties("a");
        clock.serve(0, 0, 'p');
        clock.strike(0);
        int[] wrongDays = {0, -1, 29, Integer.MAX_VALUE};
        for (int days : wrongDays) {
            Check.fails("days " + days, IllegalArgumentException.class, () -> clock.extendByConsent(0, days));
            Check.fails("no deadline", IndexOutOfBoundsException.class, () -> clock.extendByConsent(1, days));
        }
        Check.fails("struck", IllegalStateException.class, () -> clock.extendByConsent(0, 28));
        Check.fails("deadline -1", IndexOutOfBoundsException.class, () -> clock.extendByConsent(-1, 5));
        clock.serve(0, 0, 'p');
        clock.extendByConsent(1, 27);
        clock.extendByConsent(1, 1);
        Check.fails("third and too many", IllegalStateException.class, () -> clock.extendByConsent(1, 5));
        clock.stayAll(1);
        clock.serve(0, 0, 'p');
        clock.advance(100);
        Check.is("no due day", 5, clock.extendByConsent(2, 5));
    }

    private static void promise31ExtendByOrder() {
        TollClock clock = Check.withParties("a");
        clock.setRule(0, 4, false);
        clock.serve(0, 0, 'p');
        clock.serve(0, 0, 'p');
        clock.advance(100);
        Check.is("past its due day", 100, clock.extendByOrder(0, 100));
        Check.is("second", 101, clock.extendByOrder(0, 1));
        Check.is("by consent", 106, clock.extendByConsent(0, 5));
        Check.is("third", 108, clock.extendByOrder(0, 2));
        Check.fails("fourth", IllegalStateException.class, () -> clock.extendByOrder(0, 1));
        Check.fails("fourth, 101", IllegalArgumentException.class, () -> clock.extendByOrder(0, 101));
        Check.fails("0 days", IllegalArgumentException.class, () -> clock.extendByOrder(1, 0));
        Check.fails("101 days", IllegalArgumentException.class, () -> clock.extendByOrder(1, 101));
        Check.fails("deadline 2", IndexOutOfBoundsException.class, () -> clock.extendByOrder(2, 0));
        Check.fails("deadline -1", IndexOutOfBoundsException.class, () -> clock.extendByOrder(-1, 5));
        clock.file(1);
        Check.fails("filed", IllegalStateException.class, () -> clock.extendByOrder(1, 5));
        Check.fails("filed, 0", IllegalArgumentException.class, () -> clock.extendByOrder(1, 0));
    }

    private static void promise32ExtensionDays() {
        TollClock clock = Check.withParties("a");
        clock.serve(0, 0, 'a');
        Check.is("none", 0, clock.extensionDays(0));
        clock.extendByConsent(0, 7);
        clock.extendByOrder(0, 50);
        Check.is("57", 57, clock.extensionDays(0));
        clock.strike(0);
        Check.is("57 though struck", 57, clock.extensionDays(0));
        clock.undo();
        clock.undo();
        Check.is("7 after undo", 7, clock.extensionDays(0));
        Check.fails("1", IndexOutOfBoundsException.class, () -> clock.extensionDays(1));
        Check.fails("-1", IndexOutOfBoundsException.class, () -> clock.extensionDays(-1));
    }

    private static void promise33File() {
        TollClock clock = Check.withParties("a");
        clock.setRule(0, 4, false);
        for (int count = 0; count < 4; count++) {
            clock.serve(0, 0, 'p');
        }
        clock.advance(4);
        Check.is("on the due day", true, clock.file(0));
        clock.advance(1);
        Check.is("a day later", false, clock.file(1));
        Check.fails("twice", IllegalStateException.class, () -> clock.file(1));
        clock.addHoliday(4);
        Check.is("in time after all", true, clock.file(2));
        clock.removeHoliday(4);
        Check.is("late stays late", 'l', clock.status(1));
        Check.is("in time stays in time", 't', clock.status(2));
        clock.strike(3);
        Check.fails("struck", IllegalStateException.class, () -> clock.file(3));
        Check.fails("4", IndexOutOfBoundsException.class, () -> clock.file(4));
        Check.fails("-1", IndexOutOfBoundsException.class, () -> clock.file(-1));
        clock.stayAll(255);
        clock.serve(0, 0, 'p');
        clock.advance(400);
        Check.is("no due day", true, clock.file(4));
    }

    private static void promise34Strike() {
        TollClock clock = Check.withParties("a");
        for (int count = 0; count < 4; count++) {
            clock.serve(0, 0, 'p');
        }
        Check.is("first", 3, clock.strike(2));
        Check.fails("twice", IllegalStateException.class, () -> clock.strike(2));
        clock.file(0);
        Check.fails("filed", IllegalStateException.class, () -> clock.strike(0));
        Check.is("second", 1, clock.strike(1));
        Check.is("last", 0, clock.strike(3));
        Check.fails("4", IndexOutOfBoundsException.class, () -> clock.strike(4));
        Check.fails("-1", IndexOutOfBoundsException.class, () -> clock.strike(-1));
    }

    private static void promise35Status() {
        TollClock clock = Check.withParties("a");
        clock.setRule(0, 1, false);
        for (int count = 0; count < 4; count++) {
            clock.serve(0, 0, 'p');
        }
        clock.file(1);
        clock.strike(3);
        clock.advance(2);
        clock.file(2);
        Check.is("open, though past its due day", 'o', clock.status(0));
        Check.is("in time", 't', clock.status(1));
        Check.is("late", 'l', clock.status(2));
        Check.is("struck", 's', clock.status(3));
        Check.fails("4", IndexOutOfBoundsException.class, () -> clock.status(4));
        Check.fails("-1", IndexOutOfBoundsException.class, () -> clock.status(-1));
        clock.undo();
        Check.is("open again", 'o', clock.status(2));
    }

    private static void promise36OpenAt() {
        TollClock clock = Check.withParties("a", "b");
        Check.fails("no deadline", NoSuchElementException.class, () -> clock.openAt(0));
        clock.stayParty(1, 255);
        clock.serve(1, 0, 'p');              // 0: no due day
        clock.serve(0, 2, 'p');              // 1: day 30
        clock.serve(0, 0, 'p');              // 2: day 10
        clock.serve(1, 0, 'p');              // 3: no due day
        clock.serve(0, 0, 'p');              // 4: day 10
        clock.serve(0, 0, 'p');              // 5: struck
        clock.strike(5);
        int[] order = {2, 4, 1, 0, 3};
        for (int position = 0; position < order.length; position++) {
            Check.is("position " + position, order[position], clock.openAt(position));
        }
        int[] wrong = {5, -1, Integer.MAX_VALUE, Integer.MIN_VALUE};
        for (int position : wrong) {
            Check.fails("position " + position, NoSuchElementException.class, () -> clock.openAt(position));
        }
        clock.file(2);
        Check.is("after filing", 4, clock.openAt(0));
        clock.lift(0);
        Check.is("after lifting", 0, clock.openAt(0));
    }

    private static void promise37Overdue() {
        TollClock clock = Check.withParties("a", "b");
        clock.setRule(0, 1, false);
        clock.setRule(1, 2, true);
        clock.stayParty(1, 255);
        clock.serve(0, 0, 'p');
        clock.serve(0, 1, 'p');
        clock.serve(1, 0, 'p');
        clock.serve(0, 0, 'p');
        clock.advance(1);
        Check.is("day 1", 0, clock.overdue());
        clock.advance(1);
        Check.is("day 2", 2, clock.overdue());
        clock.advance(1);
        Check.is("day 3", 3, clock.overdue());
        clock.strike(0);
        Check.is("struck", 2, clock.overdue());
        clock.file(1);
        Check.is("filed", 1, clock.overdue());
        clock.extendByOrder(3, 2);
        Check.is("extended", 0, clock.overdue());
    }

    private static void promise38BusiestDay() {
        TollClock clock = Check.withParties("a", "b");
        clock.stayParty(1, 255);
        clock.serve(1, 0, 'p');
        Check.fails("none with a due day", NoSuchElementException.class, clock::busiestDay);
        clock.serve(0, 2, 'p');
        Check.is("one", 30, clock.busiestDay());
        clock.serve(0, 0, 'p');
        Check.is("two, the earlier", 10, clock.busiestDay());
        clock.serve(0, 2, 'p');
        Check.is("two on 30", 30, clock.busiestDay());
        clock.serve(0, 0, 'p');
        Check.is("two and two", 10, clock.busiestDay());
        clock.serve(1, 0, 'p');
        clock.serve(1, 0, 'p');
        Check.is("three without a due day", 10, clock.busiestDay());
        clock.strike(2);
        Check.is("struck", 30, clock.busiestDay());
        clock.file(1);
        clock.file(3);
        clock.file(4);
        Check.fails("all others filed", NoSuchElementException.class, clock::busiestDay);
    }

    private static void promise39MeanDaysLeft() {
        TollClock clock = Check.withParties("a");
        Check.fails("no deadline", ArithmeticException.class, clock::meanDaysLeft);
        clock.serve(0, 0, 'p');
        clock.serve(0, 1, 'e');
        Check.is("10 and 21", 15.5, clock.meanDaysLeft());
        clock.serve(0, 0, 'm');
        Check.is("10, 21 and 13", 44.0 / 3.0, clock.meanDaysLeft());
        clock.advance(5);
        Check.is("5, 17 and 8", 10.0, clock.meanDaysLeft());
        clock.strike(1);
        Check.is("5 and 8", 6.5, clock.meanDaysLeft());
        clock.file(0);
        clock.strike(2);
        Check.fails("none open", ArithmeticException.class, clock::meanDaysLeft);
    }

    private static void checkDue(TollClock clock, int deadline, int want) {
        Check.is("due " + deadline, want, clock.due(deadline));
        Check.is("marked due " + deadline, want, clock.dueByMarking(deadline));
    }

    private static void checkNoDue(TollClock clock, int deadline) {
        Check.fails("due " + deadline, NoSuchElementException.class, () -> clock.due(deadline));
        Check.fails("marked due " + deadline, NoSuchElementException.class,
                () -> clock.dueByMarking(deadline));
    }

    private static void checkLeft(TollClock clock, int deadline, int want) {
        Check.is("left of " + deadline, want, clock.daysLeft(deadline));
        Check.is("marked left of " + deadline, want, clock.daysLeftByMarking(deadline));
    }
}
