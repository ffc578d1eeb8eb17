import java.util.NoSuchElementException;

/** Promises 17 to 23: the rules, the ways of service, and counting back. */
public final class RulesTest {
    public static void main(String[] args) {
        promise17SetRule();
        promises18And19InitialRules();
        promise20SetServiceDays();
        promise21ServiceDays();
        promises22And23LastDayBefore();
        promises22And23WrongArguments();
        promises22And23AllDays();
        Check.end();
    }

    private static void promise17SetRule() {
        TollClock clock = new TollClock();
        Check.is("set rule 0", 10, clock.setRule(0, 1, true));
        Check.is("set rule 0 again", 1, clock.setRule(0, 200, false));
        Check.is("rule 0", 200, clock.ruleLength(0));
        Check.is("kind of rule 0", false, clock.countsCourtDays(0));
        Check.is("set rule 7", 80, clock.setRule(7, 33, false));
        Check.is("kind of rule 7", false, clock.countsCourtDays(7));
        Check.fails("rule 8", IndexOutOfBoundsException.class, () -> clock.setRule(8, 5, true));
        Check.fails("rule -1", IndexOutOfBoundsException.class, () -> clock.setRule(-1, 0, true));
        Check.fails("length 0", IllegalArgumentException.class, () -> clock.setRule(0, 0, true));
        Check.fails("length 201", IllegalArgumentException.class, () -> clock.setRule(0, 201, true));
        Check.is("rule 0 after refusals", 200, clock.ruleLength(0));
        Check.is("kind after refusals", false, clock.countsCourtDays(0));
    }

    private static void promises18And19InitialRules() {
        TollClock clock = new TollClock();
        for (int rule = 0; rule < 8; rule++) {
            Check.is("length of rule " + rule, 10 + 10 * rule, clock.ruleLength(rule));
            Check.is("kind of rule " + rule, rule % 2 == 1, clock.countsCourtDays(rule));
        }
        int[] wrongRules = {-1, 8, Integer.MAX_VALUE};
        for (int rule : wrongRules) {
            Check.fails("length of " + rule, IndexOutOfBoundsException.class, () -> clock.ruleLength(rule));
            Check.fails("kind of " + rule, IndexOutOfBoundsException.class, () -> clock.countsCourtDays(rule));
        }
    }

    private static void promise20SetServiceDays() {
        TollClock clock = new TollClock();
        Check.is("set p", 0, clock.setServiceDays('p', 30));
        Check.is("set e", 1, clock.setServiceDays('e', 0));
        Check.is("set m", 3, clock.setServiceDays('m', 4));
        Check.is("set a", 14, clock.setServiceDays('a', 15));
        Check.is("set p again", 30, clock.setServiceDays('p', 2));
        Check.fails("set x", IllegalArgumentException.class, () -> clock.setServiceDays('x', 1));
        Check.fails("set P", IllegalArgumentException.class, () -> clock.setServiceDays('P', 1));
        Check.fails("set -1", IllegalArgumentException.class, () -> clock.setServiceDays('e', -1));
        Check.fails("set 31", IllegalArgumentException.class, () -> clock.setServiceDays('e', 31));
        Check.is("e after refusals", 0, clock.serviceDays('e'));
    }

    private static void promise21ServiceDays() {
        TollClock clock = new TollClock();
        Check.is("p", 0, clock.serviceDays('p'));
        Check.is("e", 1, clock.serviceDays('e'));
        Check.is("m", 3, clock.serviceDays('m'));
        Check.is("a", 14, clock.serviceDays('a'));
        clock.setServiceDays('m', 30);
        Check.is("m changed", 30, clock.serviceDays('m'));
        Check.is("a as before", 14, clock.serviceDays('a'));
        char[] wrongWays = {'b', 'A', ' ', (char) 0, (char) 0xFFFF, (char) ('p' + 256)};
        for (char way : wrongWays) {
            Check.fails("way " + (int) way, IllegalArgumentException.class, () -> clock.serviceDays(way));
        }
    }

    private static void promises22And23LastDayBefore() {
        TollClock clock = new TollClock();
        clock.setRule(0, 5, false);
        clock.setRule(1, 5, true);
        checkBoth(clock, 0, 14, 9);      // Monday 14 less 5 days: Wednesday 9
        checkBoth(clock, 0, 12, 7);
        checkBoth(clock, 0, 11, 4);      // Sunday 6: moved back to Friday 4
        checkBoth(clock, 0, 10, 4);
        checkBoth(clock, 0, 5, 0);
        checkBoth(clock, 0, 4999, 4994);
        checkBoth(clock, 1, 14, 7);
        checkBoth(clock, 1, 7, 0);
        checkBoth(clock, 1, 5, 0);
        checkBoth(clock, 1, 12, 7);
        clock.addHoliday(9);
        checkBoth(clock, 0, 14, 8);      // holiday 9: moved back to Tuesday 8
        checkBoth(clock, 1, 14, 4);
        clock.setRule(2, 1, true);
        checkBoth(clock, 2, 10, 8);
        checkBoth(clock, 2, 7, 4);
        clock.setRule(3, 200, true);
        checkBoth(clock, 3, 281, 0);
    }

    private static void promises22And23WrongArguments() {
        TollClock clock = new TollClock();
        clock.setRule(0, 5, false);
        clock.setRule(1, 5, true);
        checkNone(clock, 0, 4);
        checkNone(clock, 1, 4);
        checkNone(clock, 1, 0);
        checkNone(clock, 0, 0);
        clock.addHoliday(0);
        checkNone(clock, 0, 5);
        checkNone(clock, 1, 7);
        clock.setRule(3, 200, true);
        checkNone(clock, 3, 279);
        int[][] wrong = {{-1, 10}, {8, 10}, {8, -1}};
        for (int[] pair : wrong) {
            Check.fails("wrong rule", IndexOutOfBoundsException.class,
                    () -> clock.lastDayBefore(pair[0], pair[1]));
            Check.fails("wrong rule marked", IndexOutOfBoundsException.class,
                    () -> clock.lastDayBeforeByMarking(pair[0], pair[1]));
        }
        int[] wrongDays = {-1, 5000};
        for (int day : wrongDays) {
            Check.fails("wrong day", IllegalArgumentException.class, () -> clock.lastDayBefore(0, day));
            Check.fails("wrong day marked", IllegalArgumentException.class,
                    () -> clock.lastDayBeforeByMarking(0, day));
        }
    }

    private static void checkBoth(TollClock clock, int rule, int day, int want) {
        Check.is("before " + day + " by rule " + rule, want, clock.lastDayBefore(rule, day));
        Check.is("marked before " + day + " by rule " + rule, want,
                clock.lastDayBeforeByMarking(rule, day));
    }

    private static void checkNone(TollClock clock, int rule, int day) {
        Check.fails("before " + day + " by rule " + rule, NoSuchElementException.class,
                () -> clock.lastDayBefore(rule, day));
        Check.fails("marked before " + day + " by rule " + rule, NoSuchElementException.class,
                () -> clock.lastDayBeforeByMarking(rule, day));
    }

    /** Every day and several lengths, against counting in this test. */
    private static void promises22And23AllDays() {
        int[] lengths = {1, 4, 5, 6, 10, 11, 63, 200};
        for (int length : lengths) {
            for (int start = 0; start < 600; start += 100) {
                checkHundredDays(length, start);
            }
            checkHundredDays(length, 4900);
        }
    }

    private static void checkHundredDays(int length, int start) {
        TollClock clock = new TollClock();
        for (int day = 0; day < 40; day++) {
            clock.addHoliday(day * 11);
        }
        clock.setRule(2, length, false);
        clock.setRule(3, length, true);
        for (int day = start; day < start + 100; day++) {
            checkAgainstCounting(clock, 2, length, day);
            checkAgainstCounting(clock, 3, length, day);
        }
    }

    private static boolean isCourtBesideHolidays(int day) {
        return day % 7 < 5 && (day % 11 != 0 || day >= 440);
    }

    private static void checkAgainstCounting(TollClock clock, int rule, int length, int day) {
        int left = length;
        int earlier = day;
        while (left > 0 && earlier > 0) {
            earlier--;
            left -= rule == 2 || isCourtBesideHolidays(earlier) ? 1 : 0;
        }
        while (left == 0 && earlier >= 0 && !isCourtBesideHolidays(earlier)) {
            earlier--;
        }
        if (left > 0 || earlier < 0) {
            checkNone(clock, rule, day);
        } else {
            checkBoth(clock, rule, day, earlier);
        }
    }
}
