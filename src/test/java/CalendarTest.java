import java.util.NoSuchElementException;

/** Promises 9 to 16: the present day, the holidays and the court days. */
public final class CalendarTest {
    public static void main(String[] args) {
        promise9Today();
        promise10Advance();
        promise11Weekday();
        promise12IsCourtDay();
        promise13AddHoliday();
        promise14RemoveHoliday();
        promises15And16CourtDays();
        promises15And16AllRanges();
        Check.end();
    }

    private static void promise9Today() {
        TollClock clock = new TollClock();
        Check.is("today", 0, clock.today());
        clock.advance(7);
        clock.advance(400);
        Check.is("today after advances", 407, clock.today());
        clock.undo();
        Check.is("today after undo", 7, clock.today());
    }

    private static void promise10Advance() {
        TollClock clock = new TollClock();
        int[] wrongNumbers = {0, -1, 401, Integer.MAX_VALUE, Integer.MIN_VALUE};
        for (int days : wrongNumbers) {
            Check.fails("advance " + days, IllegalArgumentException.class, () -> clock.advance(days));
        }
        Check.is("advance 1", 1, clock.advance(1));
        Check.is("advance 400", 401, clock.advance(400));
        clock.advance(400);
        clock.advance(400);
        Check.is("advance 299", 1500, clock.advance(299));
        Check.fails("advance to 1501", IllegalStateException.class, () -> clock.advance(1));
        Check.fails("401 on the last day", IllegalArgumentException.class, () -> clock.advance(401));
        Check.is("the last present day", 1500, clock.today());
        clock.undo();
        Check.fails("advance to 1501 at once", IllegalStateException.class, () -> clock.advance(300));
        Check.is("today after the refusal", 1201, clock.today());
    }

    private static void promise11Weekday() {
        for (int start = 0; start < 5000; start += 500) {
            weekdaysFrom(start);
        }
        TollClock clock = new TollClock();
        Check.is("weekday 6", 6, clock.weekday(6));
        Check.is("weekday 7", 0, clock.weekday(7));
        Check.is("weekday 4999", 1, clock.weekday(4999));
        Check.fails("weekday -1", IllegalArgumentException.class, () -> clock.weekday(-1));
        Check.fails("weekday 5000", IllegalArgumentException.class, () -> clock.weekday(5000));
    }

    /** Five hundred days, for an object is used for at most 512 calls. */
    private static void weekdaysFrom(int start) {
        TollClock clock = new TollClock();
        for (int day = start; day < start + 500; day++) {
            Check.is("weekday " + day, day % 7, clock.weekday(day));
        }
    }

    private static void promise12IsCourtDay() {
        TollClock clock = new TollClock();
        boolean[] week = {true, true, true, true, true, false, false};
        for (int day = 0; day < 14; day++) {
            Check.is("court day " + day, week[day % 7], clock.isCourtDay(day));
        }
        clock.addHoliday(4999);
        clock.addHoliday(5);
        Check.is("court day 4998", true, clock.isCourtDay(4998));
        Check.is("court day 4999", false, clock.isCourtDay(4999));
        Check.is("holiday on a Saturday", false, clock.isCourtDay(5));
        clock.removeHoliday(4999);
        clock.removeHoliday(5);
        Check.is("court day 4999 again", true, clock.isCourtDay(4999));
        Check.is("Saturday again", false, clock.isCourtDay(5));
        Check.fails("court day -1", IllegalArgumentException.class, () -> clock.isCourtDay(-1));
        Check.fails("court day 5000", IllegalArgumentException.class, () -> clock.isCourtDay(5000));
    }

    private static void promise13AddHoliday() {
        TollClock clock = new TollClock();
        Check.fails("holiday -1", IllegalArgumentException.class, () -> clock.addHoliday(-1));
        Check.fails("holiday 5000", IllegalArgumentException.class, () -> clock.addHoliday(5000));
        for (int count = 1; count <= 40; count++) {
            int day = count == 40 ? 4999 : (count - 1) * 3;
            Check.is("holiday " + count, count, clock.addHoliday(day));
            Check.is("it is no court day", false, clock.isCourtDay(day));
            Check.fails("the same holiday", IllegalStateException.class, () -> clock.addHoliday(day));
        }
        Check.fails("holiday 41", IllegalStateException.class, () -> clock.addHoliday(1));
        Check.fails("holiday 41 out of range", IllegalArgumentException.class, () -> clock.addHoliday(5000));
        Check.is("no holiday by refusal", true, clock.isCourtDay(1));
    }

    private static void promise14RemoveHoliday() {
        TollClock clock = new TollClock();
        Check.fails("remove -1", IllegalArgumentException.class, () -> clock.removeHoliday(-1));
        Check.fails("remove 5000", IllegalArgumentException.class, () -> clock.removeHoliday(5000));
        Check.fails("remove none", NoSuchElementException.class, () -> clock.removeHoliday(0));
        int[] days = {0, 3, 7, 4999};
        for (int day : days) {
            clock.addHoliday(day);
        }
        Check.is("remove 3", 3, clock.removeHoliday(3));
        Check.fails("remove 3 twice", NoSuchElementException.class, () -> clock.removeHoliday(3));
        Check.is("3 is a court day", true, clock.isCourtDay(3));
        Check.is("0 is none", false, clock.isCourtDay(0));
        Check.is("7 is none", false, clock.isCourtDay(7));
        Check.is("4999 is none", false, clock.isCourtDay(4999));
        Check.is("remove 4999", 2, clock.removeHoliday(4999));
        Check.is("remove 0", 1, clock.removeHoliday(0));
        Check.is("remove 7", 0, clock.removeHoliday(7));
        Check.is("add again", 1, clock.addHoliday(7));
    }

    private static void promises15And16CourtDays() {
        TollClock clock = new TollClock();
        checkBoth(clock, 0, 0, 1);
        checkBoth(clock, 5, 6, 0);
        checkBoth(clock, 0, 6, 5);
        checkBoth(clock, 4, 7, 2);
        checkBoth(clock, 6, 13, 5);
        checkBoth(clock, 0, 4999, 3572);
        checkBoth(clock, 4999, 4999, 1);
        clock.addHoliday(2);
        clock.addHoliday(5);
        clock.addHoliday(4999);
        checkBoth(clock, 0, 6, 4);
        checkBoth(clock, 3, 4, 2);
        checkBoth(clock, 2, 2, 0);
        checkBoth(clock, 0, 4999, 3570);
        int[][] wrongRanges = {{-1, 3}, {3, 5000}, {5000, 5001}, {4, 3}, {-2, -1}, {5000, 0}};
        for (int[] range : wrongRanges) {
            Check.fails("court days of a wrong range", IllegalArgumentException.class,
                    () -> clock.courtDays(range[0], range[1]));
            Check.fails("marked court days of a wrong range", IllegalArgumentException.class,
                    () -> clock.courtDaysByMarking(range[0], range[1]));
        }
    }

    private static void checkBoth(TollClock clock, int first, int last, int want) {
        Check.is("court days " + first + " to " + last, want, clock.courtDays(first, last));
        Check.is("marked court days " + first + " to " + last, want,
                clock.courtDaysByMarking(first, last));
    }

    private static void promises15And16AllRanges() {
        for (int first = 0; first < 40; first++) {
            allRangesFrom(first);
        }
    }

    private static void allRangesFrom(int first) {
        TollClock clock = new TollClock();
        int[] holidays = {0, 4, 5, 6, 14, 15, 16, 17, 18, 27};
        for (int day : holidays) {
            clock.addHoliday(day);
        }
        int want = 0;
        for (int last = first; last < 40; last++) {
            want += clock.isCourtDay(last) ? 1 : 0;
            checkBoth(clock, first, last, want);
        }
    }
}
