import java.util.NoSuchElementException;

/** The boundary cases of promises 9 to 16: the present day, the holidays and the court days. */
public final class CalendarEdgesTest {
    private static final String DAY = "the day, 0 to 4999";
    private static final String NO_DAY = "the day is out of range";
    private static final int COURT_DAYS = 3572;

    public static void main(String[] args) {
        Edges.test(9, "Returns the present day.", CalendarEdgesTest::firstAndLastPresentDay);
        Edges.test(10, "the number of days, 1 to 400", CalendarEdgesTest::oneAndFourHundredDays);
        Edges.test(10, "the present day afterwards", CalendarEdgesTest::presentDayAfterwards);
        Edges.test(10, "the number is out of range", CalendarEdgesTest::noAndTooManyDays);
        Edges.test(10, "the present day would be later than 1500", CalendarEdgesTest::noDayAfterTheLastPresentDay);
        Edges.test(11, DAY, CalendarEdgesTest::weekdayOfFirstAndLastDay);
        Edges.test(11, "0 for Monday to 6 for Sunday", CalendarEdgesTest::weekBeginsAgain);
        Edges.test(11, NO_DAY, () -> noDay(TollClock::weekday));
        Edges.test(12, DAY, CalendarEdgesTest::courtDayOfFirstAndLastDay);
        Edges.test(12, NO_DAY, () -> noDay((clock, day) -> clock.isCourtDay(day)));
        Edges.test(13, DAY, CalendarEdgesTest::addFirstAndLastDay);
        Edges.test(13, "the number of holidays afterwards", CalendarEdgesTest::holidaysAreCountedUp);
        Edges.test(13, NO_DAY, () -> noDay(TollClock::addHoliday));
        Edges.test(13, "it is a holiday", CalendarEdgesTest::holidayIsNotAddedAgain);
        Edges.test(13, "there are 40 holidays", CalendarEdgesTest::holidayFortyOneIsRefused);
        Edges.test(14, DAY, CalendarEdgesTest::removeFirstAndLastDay);
        Edges.test(14, "the number of holidays afterwards", CalendarEdgesTest::holidaysAreCountedDown);
        Edges.test(14, NO_DAY, () -> noDay(TollClock::removeHoliday));
        Edges.test(14, "it is not a holiday", CalendarEdgesTest::otherDaysAreNotRemoved);
        edgesOfRanges(15, TollClock::courtDays);
        edgesOfRanges(16, TollClock::courtDaysByMarking);
        Edges.test(16, "the same number", CalendarEdgesTest::bothWaysCountTheSame);
        Edges.allTested(9, 16);
        Check.end();
    }

    interface OfDay {
        Object answer(TollClock clock, int day);
    }

    interface OfRange {
        int count(TollClock clock, int first, int last);
    }

    private static void edgesOfRanges(int promise, OfRange call) {
        Edges.test(promise, "the first day, 0 to 4999", () -> firstDay(call));
        Edges.test(promise, "the last day, 0 to 4999", () -> lastDay(call));
        Edges.test(promise, "both included", () -> bothIncluded(call));
        Edges.test(promise, "a day is out of range", () -> noFirstOrLastDay(call));
        Edges.test(promise, "the last day is before the first day", () -> lastBeforeFirst(call));
    }

    private static void firstAndLastPresentDay() {
        TollClock clock = new TollClock();
        Check.is("first", 0, clock.today());
        Check.goTo(clock, 1500);
        Check.is("last", 1500, clock.today());
        Check.fails("one more", IllegalStateException.class, () -> clock.advance(1));
        Check.is("still the last", 1500, clock.today());
    }

    private static void oneAndFourHundredDays() {
        TollClock clock = new TollClock();
        Check.is("one", 1, clock.advance(1));
        Check.is("four hundred", 401, clock.advance(400));
        Check.is("three hundred and ninety-nine", 800, clock.advance(399));
        Check.is("two", 802, clock.advance(2));
    }

    private static void presentDayAfterwards() {
        TollClock clock = new TollClock();
        Check.is("the answer of advance", 300, clock.advance(300));
        Check.is("the answer of today", 300, clock.today());
    }

    private static void noAndTooManyDays() {
        TollClock clock = new TollClock();
        Edges.outOfRange("advance", 1, 400, clock::advance);
        Check.is("today", 0, clock.today());
        Check.goTo(clock, 1499);
        Edges.outOfRange("advance", 1, 400, clock::advance);
        Check.is("today", 1499, clock.today());
    }

    private static void noDayAfterTheLastPresentDay() {
        for (int days = 1; days <= 400; days += 57) {
            int number = days;
            TollClock clock = new TollClock();
            Check.goTo(clock, 1500 - days + 1);
            Check.fails("to 1501 by " + days, IllegalStateException.class, () -> clock.advance(number));
            Check.is("today", 1500 - days + 1, clock.today());
            clock.undo();
            Check.goTo(clock, 1500 - days);
            Check.is("to 1500 by " + days, 1500, clock.advance(days));
        }
        TollClock last = new TollClock();
        Check.goTo(last, 1500);
        Check.fails("400 more", IllegalStateException.class, () -> last.advance(400));
    }

    private static void noDay(OfDay call) {
        TollClock clock = new TollClock();
        clock.addHoliday(1);
        Edges.outOfDays("day", day -> call.answer(clock, day));
    }

    private static void weekdayOfFirstAndLastDay() {
        TollClock clock = new TollClock();
        Check.is("first", 0, clock.weekday(0));
        Check.is("last", 1, clock.weekday(4999));
    }

    private static void weekBeginsAgain() {
        TollClock clock = new TollClock();
        int[] starts = {0, 7, 1497, 4991};
        for (int start : starts) {
            for (int step = 0; step < 7; step++) {
                int weekday = start % 7 + step < 7 ? start % 7 + step : start % 7 + step - 7;
                Check.is("weekday of " + (start + step), weekday, clock.weekday(start + step));
            }
        }
        Check.is("Sunday", 6, clock.weekday(6));
        Check.is("Monday", 0, clock.weekday(7));
        Check.is("last Sunday", 6, clock.weekday(4997));
        Check.is("last Monday", 0, clock.weekday(4998));
    }

    private static void courtDayOfFirstAndLastDay() {
        TollClock clock = new TollClock();
        Check.is("first", true, clock.isCourtDay(0));
        Check.is("last", true, clock.isCourtDay(4999));
        clock.addHoliday(0);
        clock.addHoliday(4999);
        Check.is("first, a holiday", false, clock.isCourtDay(0));
        Check.is("last, a holiday", false, clock.isCourtDay(4999));
        Check.is("beside the first", true, clock.isCourtDay(1));
        Check.is("beside the last", true, clock.isCourtDay(4998));
    }

    private static void addFirstAndLastDay() {
        TollClock clock = new TollClock();
        Check.is("first", 1, clock.addHoliday(0));
        Check.is("last", 2, clock.addHoliday(4999));
        Check.is("court days", COURT_DAYS - 2, clock.courtDays(0, 4999));
    }

    private static void holidaysAreCountedUp() {
        TollClock clock = new TollClock();
        for (int count = 1; count <= 40; count++) {
            Check.is("holidays", count, clock.addHoliday(4999 - count * 100));
        }
    }

    private static void holidayIsNotAddedAgain() {
        TollClock clock = new TollClock();
        int[] days = {0, 5, 6, 7, 4999};
        for (int day : days) {
            clock.addHoliday(day);
        }
        for (int day : days) {
            Check.fails("again " + day, IllegalStateException.class, () -> clock.addHoliday(day));
        }
        clock.removeHoliday(7);
        Check.is("removed and added", 5, clock.addHoliday(7));
    }

    private static void holidayFortyOneIsRefused() {
        TollClock clock = new TollClock();
        for (int count = 1; count < 40; count++) {
            clock.addHoliday(count * 7);
        }
        Check.is("the last one", 40, clock.addHoliday(0));
        Check.fails("one more", IllegalStateException.class, () -> clock.addHoliday(1));
        Check.fails("one more on a Saturday", IllegalStateException.class, () -> clock.addHoliday(5));
        Check.fails("one that there is", IllegalStateException.class, () -> clock.addHoliday(0));
        Check.is("no holiday by refusal", true, clock.isCourtDay(1));
        Check.is("one less", 39, clock.removeHoliday(7));
        Check.is("the last one again", 40, clock.addHoliday(1));
        Check.fails("one more again", IllegalStateException.class, () -> clock.addHoliday(7));
    }

    private static void removeFirstAndLastDay() {
        TollClock clock = new TollClock();
        clock.addHoliday(0);
        clock.addHoliday(4999);
        Check.is("last", 1, clock.removeHoliday(4999));
        Check.is("first", 0, clock.removeHoliday(0));
        Check.is("court days", COURT_DAYS, clock.courtDays(0, 4999));
    }

    private static void holidaysAreCountedDown() {
        TollClock clock = new TollClock();
        for (int count = 0; count < 40; count++) {
            clock.addHoliday(count * 3);
        }
        for (int count = 39; count >= 0; count--) {
            Check.is("holidays", count, clock.removeHoliday((39 - count) * 3));
        }
        Check.fails("none left", NoSuchElementException.class, () -> clock.removeHoliday(0));
    }

    private static void otherDaysAreNotRemoved() {
        TollClock clock = new TollClock();
        Check.fails("of no holidays", NoSuchElementException.class, () -> clock.removeHoliday(0));
        clock.addHoliday(7);
        int[] others = {0, 5, 6, 8, 12, 4999};
        for (int day : others) {
            Check.fails("no holiday " + day, NoSuchElementException.class, () -> clock.removeHoliday(day));
        }
        clock.removeHoliday(7);
        Check.fails("removed before", NoSuchElementException.class, () -> clock.removeHoliday(7));
    }

    private static void firstDay(OfRange call) {
        TollClock clock = new TollClock();
        Check.is("from 0", 5, call.count(clock, 0, 6));
        Check.is("from 4999", 1, call.count(clock, 4999, 4999));
        Check.is("all days", COURT_DAYS, call.count(clock, 0, 4999));
    }

    private static void lastDay(OfRange call) {
        TollClock clock = new TollClock();
        Check.is("to 0", 1, call.count(clock, 0, 0));
        Check.is("to 4999", 2, call.count(clock, 4996, 4999));
        clock.addHoliday(0);
        clock.addHoliday(4999);
        Check.is("to 0, a holiday", 0, call.count(clock, 0, 0));
        Check.is("to 4999, a holiday", 1, call.count(clock, 4996, 4999));
        Check.is("all days", COURT_DAYS - 2, call.count(clock, 0, 4999));
    }

    private static void bothIncluded(OfRange call) {
        TollClock clock = new TollClock();
        Check.is("one court day", 1, call.count(clock, 4, 4));
        Check.is("one Saturday", 0, call.count(clock, 5, 5));
        Check.is("Friday to Monday", 2, call.count(clock, 4, 7));
        Check.is("Saturday to Sunday", 0, call.count(clock, 5, 6));
        Check.is("Saturday to Monday", 1, call.count(clock, 5, 7));
        Check.is("Friday to Sunday", 1, call.count(clock, 4, 6));
        clock.addHoliday(4);
        clock.addHoliday(5);
        clock.addHoliday(14);
        Check.is("a holiday as the first day", 1, call.count(clock, 4, 7));
        Check.is("a holiday as the last day", 4, call.count(clock, 8, 14));
        Check.is("holidays beside the range", 3, call.count(clock, 7, 9));
        Check.is("a holiday alone", 0, call.count(clock, 14, 14));
    }

    private static void noFirstOrLastDay(OfRange call) {
        TollClock clock = new TollClock();
        Edges.outOfDays("first day", day -> call.count(clock, day, 4999));
        Edges.outOfDays("last day", day -> call.count(clock, 0, day));
        Edges.outOfDays("both days", day -> call.count(clock, day, day));
    }

    private static void lastBeforeFirst(OfRange call) {
        TollClock clock = new TollClock();
        int[][] ranges = {{1, 0}, {4999, 4998}, {4999, 0}, {7, 6}};
        for (int[] range : ranges) {
            Check.fails("from " + range[0] + " to " + range[1], IllegalArgumentException.class,
                    () -> call.count(clock, range[0], range[1]));
            Check.is("from " + range[0] + " to itself", 1, call.count(clock, range[0], range[0]));
        }
    }

    private static void bothWaysCountTheSame() {
        TollClock clock = new TollClock();
        int[] holidays = {0, 4, 5, 63, 64, 127, 128, 4991, 4992, 4999};
        for (int day : holidays) {
            clock.addHoliday(day);
        }
        int[] days = {0, 1, 4, 5, 6, 7, 62, 63, 64, 65, 127, 128, 129, 4990, 4991, 4992, 4998, 4999};
        for (int first = 0; first < days.length; first++) {
            for (int last = first; last < days.length; last += 2) {
                Check.is("from " + days[first] + " to " + days[last], clock.courtDays(days[first], days[last]),
                        clock.courtDaysByMarking(days[first], days[last]));
            }
        }
    }
}
