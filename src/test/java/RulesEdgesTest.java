import java.util.NoSuchElementException;

/** The boundary cases of promises 17 to 23: the rules, the ways of service, and counting back. */
public final class RulesEdgesTest {
    private static final String NO_RULE = "there is no such rule";
    private static final String NO_WAY = "there is no such way of service";
    private static final char[] WRONG_WAYS = {0, ' ', 'P', 'E', 'M', 'A', 'b', 'd', 'f', 'l', 'n', 'o', 'q', 'z', '0',
        'p' + 256, 'a' + 256, 'p' - 'a', 0xFFFF, 0xFF50, 0xD800, 0x7FFF, 0x8000};

    public static void main(String[] args) {
        Edges.test(17, "the new length, 1 to 200", RulesEdgesTest::shortestAndLongestRule);
        Edges.test(17, "Returns the previous length.", RulesEdgesTest::previousLength);
        Edges.test(17, "true if the rule counts court days from now on", RulesEdgesTest::kindFromNowOn);
        Edges.test(17, NO_RULE, () -> noRule((clock, rule) -> clock.setRule(rule, 5, true)));
        Edges.test(17, "the length is out of range", RulesEdgesTest::noAndTooLongLength);
        Edges.test(18, NO_RULE, () -> noRule(TollClock::ruleLength));
        Edges.test(19, NO_RULE, () -> noRule((clock, rule) -> clock.countsCourtDays(rule)));
        Edges.test(20, "the new number, 0 to 30", RulesEdgesTest::noAndMostServiceDays);
        Edges.test(20, NO_WAY, () -> noWay((clock, way) -> clock.setServiceDays(way, 5)));
        Edges.test(20, "the number is out of range", RulesEdgesTest::lessThanNoneAndTooManyServiceDays);
        Edges.test(21, NO_WAY, () -> noWay(TollClock::serviceDays));
        Edges.test(22, "The day itself is not counted.", () -> dayItself(TollClock::lastDayBefore));
        Edges.test(22, "each earlier day counts", () -> eachDay(TollClock::lastDayBefore));
        Edges.test(22, "each earlier court day counts", () -> eachCourtDay(TollClock::lastDayBefore));
        Edges.test(22, "if this day is not a court day, the latest court day before it",
                () -> movedBack(TollClock::lastDayBefore));
        Edges.test(22, "Stays do not matter.", () -> noStays(TollClock::lastDayBefore));
        edgesOfCountingBack(22, TollClock::lastDayBefore);
        Edges.test(23, "Returns the same day", () -> dayItself(TollClock::lastDayBeforeByMarking));
        Edges.test(23, "Returns the same day", () -> eachDay(TollClock::lastDayBeforeByMarking));
        Edges.test(23, "Returns the same day", () -> eachCourtDay(TollClock::lastDayBeforeByMarking));
        Edges.test(23, "Returns the same day", () -> movedBack(TollClock::lastDayBeforeByMarking));
        Edges.test(23, "Returns the same day", () -> noStays(TollClock::lastDayBeforeByMarking));
        edgesOfCountingBack(23, TollClock::lastDayBeforeByMarking);
        Edges.allTested(17, 23);
        Check.end();
    }

    interface OfRule {
        Object answer(TollClock clock, int rule);
    }

    interface OfWay {
        Object answer(TollClock clock, char way);
    }

    interface CountingBack {
        int day(TollClock clock, int rule, int day);
    }

    private static void edgesOfCountingBack(int promise, CountingBack call) {
        Edges.test(promise, "the day, 0 to 4999", () -> backFromFirstAndLastDay(call));
        Edges.test(promise, NO_RULE, () -> noRule((clock, rule) -> call.day(clock, rule, 4999)));
        Edges.test(promise, "the day is out of range", () -> backFromNoDay(call));
        Edges.test(promise, "the resulting day would be before day 0", () -> backBeforeDayZero(call));
        Edges.test(promise, "the resulting day would be before day 0", () -> movedBackBeforeDayZero(call));
    }

    private static void shortestAndLongestRule() {
        TollClock clock = new TollClock();
        for (int rule = 0; rule < 8; rule++) {
            clock.setRule(rule, 1, true);
            Check.is("shortest", 1, clock.ruleLength(rule));
            clock.setRule(rule, 200, false);
            Check.is("longest", 200, clock.ruleLength(rule));
        }
    }

    private static void previousLength() {
        TollClock clock = new TollClock();
        Check.is("at first", 10, clock.setRule(0, 1, false));
        Check.is("shortest", 1, clock.setRule(0, 200, false));
        Check.is("longest", 200, clock.setRule(0, 200, true));
        Check.is("last rule", 80, clock.setRule(7, 80, true));
        Check.is("the same again", 80, clock.setRule(7, 79, true));
    }

    private static void kindFromNowOn() {
        TollClock clock = Check.withParties("a");
        clock.serve(0, 0, 'p');
        clock.setRule(0, 10, true);
        clock.serve(0, 0, 'p');
        Check.is("counts court days", true, clock.countsCourtDays(0));
        Check.is("calendar days before", 10, clock.due(0));
        Check.is("court days from now on", 14, clock.due(1));
        clock.setRule(0, 10, false);
        Check.is("counts calendar days", false, clock.countsCourtDays(0));
        Check.is("court days stay", 14, clock.due(1));
    }

    private static void noRule(OfRule call) {
        TollClock clock = new TollClock();
        Edges.noIndex("rule", 8, rule -> call.answer(clock, rule));
        call.answer(clock, 0);
        call.answer(clock, 7);
    }

    private static void noAndTooLongLength() {
        TollClock clock = new TollClock();
        Edges.outOfRange("length", 1, 200, length -> clock.setRule(3, length, false));
        Check.is("length as before", 40, clock.ruleLength(3));
        Check.is("kind as before", true, clock.countsCourtDays(3));
    }

    private static void noAndMostServiceDays() {
        TollClock clock = new TollClock();
        for (char way : "pema".toCharArray()) {
            clock.setServiceDays(way, 0);
            Check.is("none", 0, clock.serviceDays(way));
            Check.is("the number before", 0, clock.setServiceDays(way, 30));
            Check.is("most", 30, clock.serviceDays(way));
        }
    }

    private static void noWay(OfWay call) {
        TollClock clock = new TollClock();
        for (char way : WRONG_WAYS) {
            Check.fails("way " + (int) way, IllegalArgumentException.class, () -> call.answer(clock, way));
        }
        for (char way : "pema".toCharArray()) {
            call.answer(clock, way);
        }
    }

    private static void lessThanNoneAndTooManyServiceDays() {
        TollClock clock = new TollClock();
        Edges.outOfRange("days", 0, 30, days -> clock.setServiceDays('a', days));
        Check.is("as before", 14, clock.serviceDays('a'));
    }

    private static void checkBack(TollClock clock, CountingBack call, int rule, int day, int want) {
        Check.is("rule " + rule + " before " + day, want, call.day(clock, rule, day));
    }

    private static void checkNone(TollClock clock, CountingBack call, int rule, int day) {
        Check.fails("rule " + rule + " before " + day, NoSuchElementException.class, () -> call.day(clock, rule, day));
    }

    private static void dayItself(CountingBack call) {
        TollClock clock = new TollClock();
        clock.setRule(0, 1, false);
        clock.setRule(1, 1, true);
        checkBack(clock, call, 0, 1, 0);
        checkBack(clock, call, 1, 1, 0);
        checkBack(clock, call, 0, 4999, 4998);
        checkBack(clock, call, 1, 4999, 4998);
    }

    private static void eachDay(CountingBack call) {
        TollClock clock = new TollClock();
        clock.addHoliday(9);
        clock.setRule(0, 7, false);
        checkBack(clock, call, 0, 14, 7);
        clock.setRule(0, 6, false);
        checkBack(clock, call, 0, 14, 8);
        clock.setRule(0, 200, false);
        checkBack(clock, call, 0, 200, 0);
        checkBack(clock, call, 0, 4999, 4799);
    }

    private static void eachCourtDay(CountingBack call) {
        TollClock clock = new TollClock();
        clock.setRule(1, 5, true);
        checkBack(clock, call, 1, 14, 7);
        checkBack(clock, call, 1, 13, 7);
        checkBack(clock, call, 1, 12, 7);
        clock.addHoliday(9);
        clock.addHoliday(12);                // a Saturday, which takes no court day
        checkBack(clock, call, 1, 14, 4);
        clock.setRule(1, 200, true);
        checkBack(clock, call, 1, 282, 1);
    }

    private static void movedBack(CountingBack call) {
        TollClock clock = new TollClock();
        clock.setRule(0, 1, false);
        checkBack(clock, call, 0, 7, 4);     // Sunday
        checkBack(clock, call, 0, 6, 4);     // Saturday
        checkBack(clock, call, 0, 8, 7);     // Monday, which is not moved
        clock.addHoliday(4);
        clock.addHoliday(3);
        checkBack(clock, call, 0, 7, 2);
        checkBack(clock, call, 0, 5, 2);
        clock.addHoliday(4998);
        checkBack(clock, call, 0, 4999, 4995);
    }

    private static void noStays(CountingBack call) {
        TollClock clock = Check.withParties("a");
        clock.setRule(0, 3, false);
        clock.setRule(1, 3, true);
        clock.stayAll(255);
        clock.stayParty(0, 255);
        checkBack(clock, call, 0, 10, 7);
        checkBack(clock, call, 1, 10, 7);
        checkBack(clock, call, 0, 4999, 4995);
    }

    private static void backFromFirstAndLastDay(CountingBack call) {
        TollClock clock = new TollClock();
        checkNone(clock, call, 0, 0);
        checkNone(clock, call, 1, 0);
        checkBack(clock, call, 0, 4999, 4988);  // moved back from Saturday
        checkBack(clock, call, 1, 4999, 4971);
    }

    private static void backFromNoDay(CountingBack call) {
        TollClock clock = new TollClock();
        Edges.outOfDays("calendar days before", day -> call.day(clock, 0, day));
        Edges.outOfDays("court days before", day -> call.day(clock, 1, day));
    }

    private static void backBeforeDayZero(CountingBack call) {
        TollClock clock = new TollClock();
        for (int length = 1; length <= 200; length += 199) {
            clock.setRule(0, length, false);
            checkBack(clock, call, 0, length, 0);
            checkNone(clock, call, 0, length - 1);
        }
        clock.setRule(1, 5, true);
        checkBack(clock, call, 1, 5, 0);
        checkNone(clock, call, 1, 4);
        clock.setRule(1, 6, true);
        checkBack(clock, call, 1, 8, 0);
        checkNone(clock, call, 1, 7);
        clock.setRule(1, 200, true);
        checkBack(clock, call, 1, 278, 0);
        checkNone(clock, call, 1, 277);
    }

    private static void movedBackBeforeDayZero(CountingBack call) {
        TollClock clock = new TollClock();
        clock.setRule(0, 2, false);
        clock.setRule(1, 2, true);
        clock.addHoliday(0);
        checkNone(clock, call, 0, 2);
        checkBack(clock, call, 0, 3, 1);
        checkNone(clock, call, 1, 2);
        checkBack(clock, call, 1, 3, 1);
        for (int day = 1; day < 5; day++) {
            clock.addHoliday(day);
        }
        checkNone(clock, call, 0, 8);        // Sunday 6: no court day before it
        checkBack(clock, call, 0, 9, 7);
        checkNone(clock, call, 1, 8);
        checkBack(clock, call, 1, 9, 7);
    }
}
