import java.util.NoSuchElementException;

/** The boundary cases of the document's terms, from the days to the claims. */
public final class TermsEdgesTest {
    private static final String TERMS = "Terms";

    public static void main(String[] args) {
        Edges.test("What it is", "An object is used for at most 512 calls", TermsEdgesTest::answersUpToTheLastCall);
        Edges.test(TERMS, "A method that throws an exception changes nothing, except that addParty, findParty and run"
                + " empty the text buffer, and run records an error position or a failed command.",
                Refusals::changeNothing);
        Edges.test(TERMS, "If several conditions for an exception hold, the exception that is listed first is thrown.",
                Refusals::firstListedIsThrown);
        edgesOfDays();
        edgesOfParties();
        edgesOfRules();
        edgesOfDeadlines();
        edgesOfCounting();
        edgesOfDaysLeft();
        edgesOfExtensions();
        edgesOfStays();
        edgesOfOccurrences();
        edgesOfClaims();
        ProgramTerms.test();
        Edges.namesNone(TERMS, "The class also computes until when claims can be filed");
        Edges.namesNone(TERMS, "This class is not thread-safe.");
        Edges.allTested("What it is");
        Edges.allTested(TERMS);
        Check.end();
    }

    private static void edgesOfDays() {
        Edges.test(TERMS, "A day is a number from 0 to 4999.", TermsEdgesTest::firstAndLastDay);
        Edges.test(TERMS, "Day 0 is a Monday.", TermsEdgesTest::dayZeroIsAMonday);
        Edges.test(TERMS, "The present day is initially 0", TermsEdgesTest::presentDayIsInitiallyZero);
        Edges.test(TERMS, "it is at most 1500", TermsEdgesTest::presentDayIsAtMost1500);
        Edges.test(TERMS, "A court day is a day that is not a Saturday, not a Sunday and not a holiday.",
                TermsEdgesTest::courtDaysOfAWeek);
        Edges.test(TERMS, "There are at most 40 holidays", TermsEdgesTest::atMostFortyHolidays);
        Edges.test(TERMS, "initially none", TermsEdgesTest::initiallyNoHoliday);
        Edges.test(TERMS, "Any day can be a holiday, also a Saturday or a Sunday.", TermsEdgesTest::anyDayIsAHoliday);
    }

    private static void edgesOfParties() {
        Edges.test(TERMS, "There are at most 8 parties, numbered from 0", TermsEdgesTest::atMostEightParties);
        Edges.test(TERMS, "The name of a party consists of 1 to 8 Unicode code points.",
                TermsEdgesTest::namesOfOneToEight);
        Edges.test(TERMS, "each high surrogate in it is followed by a low surrogate",
                TermsEdgesTest::highSurrogatesAreFollowed);
        Edges.test(TERMS, "each low surrogate follows a high surrogate", TermsEdgesTest::lowSurrogatesFollow);
        Edges.test(TERMS, "every other character is one code point", TermsEdgesTest::charactersBesideSurrogates);
        Edges.test(TERMS, "Any code point is allowed.", TermsEdgesTest::anyCodePointIsAllowed);
        Edges.test(TERMS, "Two parties cannot have the same name.", TermsEdgesTest::noTwoOfTheSameName);
    }

    private static void edgesOfRules() {
        Edges.test(TERMS, "There are 8 rules, numbered from 0.", TermsEdgesTest::eightRules);
        Edges.test(TERMS, "A rule has a length from 1 to 200 days", TermsEdgesTest::lengthsOfOneToTwoHundred);
        Edges.test(TERMS, "Initially, rule k has the length 10 + 10 * k, and it counts calendar days if k is even and"
                + " court days if k is odd.", TermsEdgesTest::initialRules);
        Edges.test(TERMS, "A set of rules is a number from 1 to 255", TermsEdgesTest::setsOfOneTo255);
        Edges.test(TERMS, "rule k belongs to the set if bit k of the number, with the value 2 to the power of k, is 1",
                TermsEdgesTest::eachBitOfASet);
        Edges.test(TERMS, "Each of them adds a number of days from 0 to 30", TermsEdgesTest::serviceOfNoneToThirtyDays);
        Edges.test(TERMS, "initially 'p' adds 0, 'e' adds 1, 'm' adds 3 and 'a' adds 14",
                TermsEdgesTest::initialServiceDays);
    }

    private static void edgesOfDeadlines() {
        Edges.test(TERMS, "There are at most 30 deadlines, numbered from 0 in the order of service.",
                TermsEdgesTest::atMostThirtyDeadlines);
        Edges.test(TERMS, "later changes of the rule or of the way of service do not affect it",
                TermsEdgesTest::laterRulesDoNotMatter);
        Edges.test(TERMS, "A deadline is open at first, until its answer is filed or it is struck.",
                TermsEdgesTest::openUntilFiledOrStruck);
        Edges.test(TERMS, "if the way of service adds at least one day, a part of this length that counts calendar days",
                TermsEdgesTest::serviceOfNoneAndOneDay);
        Edges.test(TERMS, "for each extension, in the order in which they were granted",
                TermsEdgesTest::extensionsInTheirOrder);
        Edges.test(TERMS, "A deadline consists of parts", TermsEdgesTest::sevenPartsOfThirtyDeadlines);
    }

    private static void edgesOfCounting() {
        Edges.test(TERMS, "The counting of the base part begins with the day after the service.",
                TermsEdgesTest::countingBeginsTheDayAfter);
        Edges.test(TERMS, "A stopped day (see below) does not count.", TermsEdgesTest::stoppedDaysDoNotCount);
        Edges.test(TERMS, "Every other day counts in a part that counts calendar days, and every other court day counts"
                + " in a part that counts court days.", TermsEdgesTest::otherDaysCount);
        Edges.test(TERMS, "A part ends on the day on which the number of its counted days becomes its length.",
                TermsEdgesTest::partsEndAtTheirLength);
        Edges.test(TERMS, "If this day is not a court day, the end of the part is moved",
                TermsEdgesTest::endsMoveToACourtDay);
        Edges.test(TERMS, "to the first later day that is a court day and is not stopped",
                TermsEdgesTest::endsMoveOverStoppedDays);
        Edges.test(TERMS, "The counting of the next part begins with the day after the end, moved or not, of the part"
                + " before.", TermsEdgesTest::nextPartBeginsAfterTheMovedEnd);
        Edges.test(TERMS, "The due day of the deadline is the end of its last part.", TermsEdgesTest::dueAtTheLastEnd);
        Edges.test(TERMS, "If an end would be later than day 4999, there is no due day.",
                TermsEdgesTest::noEndAfterTheLastDay);
        Edges.test(TERMS, "If an end would be later than day 4999, there is no due day.", TermsEdgesTest::latestDueDay);
        Edges.test(TERMS, "Holidays and stays are taken as they are now, for earlier days as well.",
                TermsEdgesTest::holidaysOfEarlierDays);
    }

    private static void edgesOfDaysLeft() {
        Edges.test(TERMS, "up to the present day, included", TermsEdgesTest::presentDayCounts);
        Edges.test(TERMS, "the sum of the lengths of its parts", TermsEdgesTest::daysLeftFromAllToNone);
        Edges.test(TERMS, "They are defined also if there is no due day", TermsEdgesTest::daysLeftWithoutADueDay);
        Edges.test(TERMS, "They are defined also if there is no due day or the deadline is not open.",
                TermsEdgesTest::daysLeftOfEndedDeadlines);
    }

    private static void edgesOfExtensions() {
        Edges.test(TERMS, "at most 2 times by consent", TermsEdgesTest::twoConsents);
        Edges.test(TERMS, "by at most 28 days in total, and at most 3 times by order", TermsEdgesTest::twentyEightDays);
        Edges.test(TERMS, "at most 3 times by order", TermsEdgesTest::threeOrders);
        Edges.test(TERMS, "The limits for consent do not concern extensions by order.",
                TermsEdgesTest::ordersBesideConsents);
    }

    private static void edgesOfStays() {
        Edges.test(TERMS, "There are at most 12 stays, numbered from 0 in the order in which they were ordered.",
                TermsEdgesTest::atMostTwelveStays);
        Edges.test(TERMS, "also for deadlines that are made later", TermsEdgesTest::staysOfLaterDeadlines);
        Edges.test(TERMS, "all days after the day on which it was ordered, up to and including the day on which it is"
                + " lifted", TermsEdgesTest::stoppedFromOrderToLifting);
        Edges.test(TERMS, "as long as it has not been lifted, all days after the day on which it was ordered",
                TermsEdgesTest::stoppedUntilTheLastDay);
        Edges.test(TERMS, "A day is stopped for a deadline if at least one stay stops it.",
                TermsEdgesTest::stoppedByOneOfSeveral);
        Edges.test(TERMS, "A day is stopped for a deadline if at least one stay stops it.",
                TermsEdgesTest::stoppedByTwelveStaysWithGaps);
    }

    private static void edgesOfOccurrences() {
        Edges.test(TERMS, "There are at most 8 occurrences, numbered from 0 in the order in which they were added.",
                TermsEdgesTest::atMostEightOccurrences);
        Edges.test(TERMS, "as they were when the occurrence was added", TermsEdgesTest::periodsDoNotChange);
        Edges.test(TERMS, "like the due day of a deadline that has only a base part",
                TermsEdgesTest::barDayIsTheEndOfTheBasePart);
        Edges.test(TERMS, "exactly those stays stop days that concern all parties and whose set contains the rule",
                TermsEdgesTest::barDayWithEachKindOfStay);
        Edges.test(TERMS, "Two occurrences are of the same conduct if they are the same, or if the one can be reached"
                + " from the other along links.", TermsEdgesTest::sameConductAlongLinks);
    }

    private static void edgesOfClaims() {
        Edges.test(TERMS, "There are at most 20 claims, numbered from 0 in the order in which they were filed.",
                TermsEdgesTest::atMostTwentyClaims);
        Edges.test(TERMS, "A claim can be an amendment of an earlier claim.", TermsEdgesTest::amendmentsOfEarlierClaims);
        Edges.test(TERMS, "The effective day of a claim that is not an amendment is the day on which it was filed.",
                TermsEdgesTest::claimsThatAreNoAmendments);
        Edges.test(TERMS, "if the occurrences of both claims are of the same conduct now, and otherwise the day on which"
                + " the amendment was filed", TermsEdgesTest::amendmentsOfTheSameConduct);
        Edges.test(TERMS, "if its occurrence has no bar day", TermsEdgesTest::timelyWithoutABarDay);
        Edges.test(TERMS, "if its effective day is not after the bar day", TermsEdgesTest::timelyUntilTheBarDay);
    }

    private static TollClock withRule(int length, boolean inCourtDays) {
        TollClock clock = Check.withParties("a", "b");
        clock.setRule(0, length, inCourtDays);
        return clock;
    }

    private static TollClock served(int length, boolean inCourtDays, char way) {
        TollClock clock = withRule(length, inCourtDays);
        clock.serve(0, 0, way);
        return clock;
    }

    private static void checkDue(TollClock clock, int deadline, int want) {
        Check.is("due day of " + deadline, want, clock.due(deadline));
        Check.is("marked due day of " + deadline, want, clock.dueByMarking(deadline));
    }

    private static void checkNoDue(TollClock clock, int deadline) {
        Check.fails("due day of " + deadline, NoSuchElementException.class, () -> clock.due(deadline));
        Check.fails("marked due day of " + deadline, NoSuchElementException.class, () -> clock.dueByMarking(deadline));
    }

    private static void checkLeft(TollClock clock, int deadline, int want) {
        Check.is("days left of " + deadline, want, clock.daysLeft(deadline));
        Check.is("marked days left of " + deadline, want, clock.daysLeftByMarking(deadline));
    }

    private static void answersUpToTheLastCall() {
        TollClock clock = new TollClock();
        Check.is("call 1", 1, clock.type('a'));
        Check.is("call 2", 0, clock.addParty());
        Check.is("call 3", 0, clock.serve(0, 0, 'p'));
        for (int call = 4; call < 509; call += 5) {
            int today = (call - 4) / 5;
            Check.is("call " + call, today + 1, clock.advance(1));
            Check.is("the next call", today + 2, clock.advance(1));
            Check.is("the next but one", Math.min(8, today + 4) - 1, clock.undo());
            Check.is("the next but two", true, clock.isConsistent());
            Check.is("the next but three", today + 1, clock.today());
        }
        Check.is("call 509", 0, clock.daysLeft(0));
        Check.is("call 510", 10, clock.dueByMarking(0));
        Check.is("call 511", false, clock.file(0));
        Check.is("call 512", 'l', clock.status(0));
    }

    private static void firstAndLastDay() {
        TollClock clock = new TollClock();
        Check.is("weekday of the first", 0, clock.weekday(0));
        Check.is("weekday of the last", 1, clock.weekday(4999));
        Check.is("first court day", true, clock.isCourtDay(0));
        Check.is("last court day", true, clock.isCourtDay(4999));
        Check.is("all court days", 3572, clock.courtDays(0, 4999));
        Check.is("first holiday", 1, clock.addHoliday(0));
        Check.is("last holiday", 2, clock.addHoliday(4999));
        Check.is("back from the last", 4988, clock.lastDayBefore(0, 4999));
        Edges.outOfDays("weekday", clock::weekday);
        Edges.outOfDays("court day", clock::isCourtDay);
        Edges.outOfDays("holiday", clock::addHoliday);
    }

    private static void dayZeroIsAMonday() {
        TollClock clock = new TollClock();
        Check.is("weekday", 0, clock.weekday(0));
        for (int day = 0; day < 7; day++) {
            Check.is("court day " + day, day < 5, clock.isCourtDay(day));
        }
    }

    private static void presentDayIsInitiallyZero() {
        TollClock clock = Check.withParties("a");
        Check.is("today", 0, clock.today());
        clock.serve(0, 0, 'p');
        Check.is("served on day 0", 10, clock.due(0));
    }

    private static void presentDayIsAtMost1500() {
        TollClock clock = new TollClock();
        Check.goTo(clock, 1499);
        Check.fails("1501", IllegalStateException.class, () -> clock.advance(2));
        Check.is("1500", 1500, clock.advance(1));
        Check.fails("1501", IllegalStateException.class, () -> clock.advance(1));
        Check.fails("1501 by a program", UnsupportedOperationException.class, () -> Check.run(clock, "day"));
        Check.is("today", 1500, clock.today());
    }

    private static void courtDaysOfAWeek() {
        TollClock clock = new TollClock();
        clock.addHoliday(4);
        clock.addHoliday(7);
        boolean[] want = {true, true, true, true, false, false, false, false, true, true, true, true, false, false};
        for (int day = 0; day < want.length; day++) {
            Check.is("court day " + day, want[day], clock.isCourtDay(day));
        }
    }

    private static void atMostFortyHolidays() {
        TollClock clock = new TollClock();
        for (int count = 1; count <= 40; count++) {
            Check.is("holidays", count, clock.addHoliday(count));
        }
        Check.fails("one more", IllegalStateException.class, () -> clock.addHoliday(41));
        Check.fails("one more by a program", UnsupportedOperationException.class, () -> Check.run(clock, "holiday 41"));
        Check.is("41 is a court day", true, clock.isCourtDay(43));
        Check.is("40 is none", false, clock.isCourtDay(38));
    }

    private static void initiallyNoHoliday() {
        TollClock clock = new TollClock();
        Check.is("all days from Monday to Friday", 3572, clock.courtDaysByMarking(0, 4999));
        Check.fails("none to remove", NoSuchElementException.class, () -> clock.removeHoliday(0));
        Check.is("the first one", 1, clock.addHoliday(0));
    }

    private static void anyDayIsAHoliday() {
        TollClock clock = new TollClock();
        for (int day = 0; day < 7; day++) {
            Check.is("holiday " + day, day + 1, clock.addHoliday(day));
            Check.is("court day " + day, false, clock.isCourtDay(day));
        }
        Check.is("court days of the week", 0, clock.courtDays(0, 6));
        Check.is("court days of the next week", 5, clock.courtDays(0, 13));
        Check.fails("Saturday again", IllegalStateException.class, () -> clock.addHoliday(5));
        for (int day = 6; day >= 0; day--) {
            Check.is("removed " + day, day, clock.removeHoliday(day));
        }
        Check.is("Saturday is still no court day", false, clock.isCourtDay(5));
        Check.is("court days of the week again", 5, clock.courtDaysByMarking(0, 6));
    }

    private static void atMostEightParties() {
        TollClock clock = new TollClock();
        for (int party = 0; party < 8; party++) {
            Check.is("number", party, Check.party(clock, "p" + (7 - party)));
        }
        Check.fails("one more", IllegalStateException.class, () -> Check.party(clock, "p8"));
        for (int party = 0; party < 8; party++) {
            Check.is("name of " + party, '0' + 7 - party, clock.nameCodePoint(party, 1));
        }
    }

    private static void namesOfOneToEight() {
        for (int length = 1; length <= 8; length++) {
            TollClock clock = Check.withParties("x".repeat(length), "\ud83d\ude00".repeat(length));
            Check.is("length", length, clock.nameLength(0));
            Check.is("length of pairs", length, clock.nameLength(1));
        }
        int[] wrongLengths = {0, 9, 10, 16, 30};
        for (int length : wrongLengths) {
            TollClock clock = new TollClock();
            Check.fails("length " + length, IllegalArgumentException.class,
                    () -> Check.party(clock, "x".repeat(length)));
            Check.fails("pairs " + length, IllegalArgumentException.class,
                    () -> Check.party(clock, "\ud83d\ude00".repeat(length)));
        }
    }

    private static void noName(String text) {
        TollClock clock = new TollClock();
        Check.fails("no name", IllegalArgumentException.class, () -> Check.party(clock, text));
        Check.type(clock, text);
        Check.fails("not found", NoSuchElementException.class, clock::findParty);
    }

    private static void highSurrogatesAreFollowed() {
        String[] texts = {"\ud800", "\udbff", "\ud800a", "a\udbff", "\ud800\ud800\udc00", "\udbff\ue000", "\ud800\udbff",
            "\ud800\uffff", "1234567\udbff", "\ud800\udc00\ud800", "\ud83d\u0000", "\udbff\udbff", "\ud800\ue000",
            "\udbff\ud7ff"};
        for (String text : texts) {
            noName(text);
        }
        Check.is("first and last pair", 2, Check.withParties("\ud800\udc00\udbff\udfff").nameLength(0));
    }

    private static void lowSurrogatesFollow() {
        String[] texts = {"\udc00", "\udfff", "\udc00a", "a\udfff", "\ud800\udc00\udc00", "\ud7ff\udc00", "\udc00\ud800",
            "\ue000\udfff", "1234567\udc00", "\udfff\udbff\udfff", "\udc00\udc00", "\udc00\udfff", "\udfff\udfff"};
        for (String text : texts) {
            noName(text);
        }
    }

    private static void charactersBesideSurrogates() {
        TollClock clock = Check.withParties("\ud7ff\ue000", "\u0000\uffff", "\uffff\ud800\udc00\u0000");
        Check.is("below the surrogates", 0xD7FF, clock.nameCodePoint(0, 0));
        Check.is("above the surrogates", 0xE000, clock.nameCodePoint(0, 1));
        Check.is("first", 0, clock.nameCodePoint(1, 0));
        Check.is("last", 0xFFFF, clock.nameCodePoint(1, 1));
        Check.is("beside a pair", 3, clock.nameLength(2));
    }

    private static void anyCodePointIsAllowed() {
        int[] points = {0, 0x20, 0x3B, 0x7F, 0x80, 0xFF, 0x100, 0xD7FF, 0xE000, 0xFFFE, 0xFFFF, 0x10000, 0x1FFFF, 0x10FFFE,
            0x10FFFF};
        for (int point : points) {
            TollClock clock = new TollClock();
            Check.is("party", 0, Check.party(clock, new String(Character.toChars(point)).repeat(8)));
            Check.is("first", point, clock.nameCodePoint(0, 0));
            Check.is("last", point, clock.nameCodePoint(0, 7));
        }
    }

    private static void noTwoOfTheSameName() {
        TollClock clock = Check.withParties("12345678", "\u0000", "\u0000\u0000");
        Check.fails("eight code points", IllegalStateException.class, () -> Check.party(clock, "12345678"));
        Check.fails("a zero", IllegalStateException.class, () -> Check.party(clock, "\u0000"));
        Check.fails("two zeros", IllegalStateException.class, () -> Check.party(clock, "\u0000\u0000"));
        Check.is("three zeros", 3, Check.party(clock, "\u0000\u0000\u0000"));
        Check.is("the last of eight", 4, Check.party(clock, "12345679"));
        Check.is("the first of eight", 5, Check.party(clock, "02345678"));
    }

    private static void eightRules() {
        TollClock clock = new TollClock();
        for (int rule = 0; rule < 8; rule++) {
            Check.is("rule " + rule, 10 + 10 * rule, clock.setRule(rule, 100 + rule, true));
        }
        for (int rule = 0; rule < 8; rule++) {
            Check.is("rule " + rule, 100 + rule, clock.ruleLength(rule));
        }
        Edges.noIndex("rule", 8, clock::ruleLength);
    }

    private static void lengthsOfOneToTwoHundred() {
        TollClock one = served(1, false, 'p');
        checkDue(one, 0, 1);
        TollClock oneCourtDay = served(1, true, 'p');
        checkDue(oneCourtDay, 0, 1);
        TollClock long200 = served(200, false, 'p');
        checkDue(long200, 0, 200);
        TollClock court200 = served(200, true, 'p');
        checkDue(court200, 0, 280);
        Edges.outOfRange("length", 1, 200, length -> one.setRule(0, length, true));
    }

    private static void initialRules() {
        TollClock clock = new TollClock();
        for (int rule = 0; rule < 8; rule++) {
            Check.is("length of " + rule, 10 + 10 * rule, clock.ruleLength(rule));
            Check.is("kind of " + rule, rule % 2 == 1, clock.countsCourtDays(rule));
        }
    }

    private static void setsOfOneTo255() {
        TollClock clock = Check.withParties("a");
        Check.is("least", 0, clock.stayAll(1));
        Check.is("most", 1, clock.stayAll(255));
        Check.is("least of a party", 2, clock.stayParty(0, 1));
        Check.is("most of a party", 3, clock.stayParty(0, 255));
        Edges.outOfRange("set", 1, 255, clock::stayAll);
        Edges.outOfRange("set of a party", 1, 255, rules -> clock.stayParty(0, rules));
        Check.fails("set of a program", UnsupportedOperationException.class, () -> Check.run(clock, "stay 256"));
    }

    private static void eachBitOfASet() {
        for (int bit = 0; bit < 8; bit++) {
            TollClock clock = Check.withParties("a");
            clock.stayAll(1 << bit);
            TollClock others = Check.withParties("a");
            others.stayParty(0, 255 - (1 << bit));
            for (int rule = 0; rule < 8; rule++) {
                clock.serve(0, rule, 'p');
                others.serve(0, rule, 'p');
                Check.is("rule " + rule + " of bit " + bit, rule == bit, clock.isStopped(rule, 1));
                Check.is("rule " + rule + " of all but bit " + bit, rule != bit, others.isStopped(rule, 1));
            }
        }
    }

    private static void serviceOfNoneToThirtyDays() {
        TollClock clock = withRule(4, false);
        clock.setServiceDays('a', 30);
        clock.serve(0, 0, 'a');
        checkDue(clock, 0, 35);              // Friday 4 and 30 days: Sunday 34 moves to Monday 35
        checkLeft(clock, 0, 34);
        clock.setServiceDays('a', 0);
        clock.serve(0, 0, 'a');
        checkDue(clock, 1, 4);
        checkLeft(clock, 1, 4);
        Edges.outOfRange("days", 0, 30, days -> clock.setServiceDays('p', days));
    }

    private static void initialServiceDays() {
        TollClock clock = withRule(1, false);
        int[] days = {0, 1, 3, 14};
        for (int index = 0; index < 4; index++) {
            char way = "pema".charAt(index);
            Check.is("days of " + way, days[index], clock.serviceDays(way));
            clock.serve(0, 0, way);
            checkLeft(clock, index, 1 + days[index]);
        }
    }

    private static void atMostThirtyDeadlines() {
        TollClock clock = withRule(1, false);
        for (int deadline = 0; deadline < 30; deadline++) {
            clock.setRule(0, 1 + deadline, true);
            Check.is("number", deadline, clock.serve(0, 0, 'p'));
        }
        Check.fails("one more", IllegalStateException.class, () -> clock.serve(0, 0, 'p'));
        Check.fails("one more by a program", UnsupportedOperationException.class,
                () -> Check.run(clock, "serve 0 0 p"));
        for (int deadline = 0; deadline < 30; deadline++) {
            checkLeft(clock, deadline, 1 + deadline);
        }
    }

    private static void laterRulesDoNotMatter() {
        TollClock clock = served(5, true, 'm');
        checkDue(clock, 0, 10);
        clock.setRule(0, 1, false);
        clock.setServiceDays('m', 30);
        checkDue(clock, 0, 10);
        checkLeft(clock, 0, 8);
        clock.setServiceDays('m', 0);
        checkDue(clock, 0, 10);
        clock.serve(0, 0, 'm');
        checkDue(clock, 1, 1);
        clock.setServiceDays('m', 3);
        checkDue(clock, 1, 1);
    }

    private static void openUntilFiledOrStruck() {
        TollClock clock = served(1, false, 'p');
        clock.serve(0, 0, 'p');
        clock.serve(0, 0, 'p');
        Check.goTo(clock, 1500);
        for (int deadline = 0; deadline < 3; deadline++) {
            Check.is("open though overdue", 'o', clock.status(deadline));
        }
        clock.file(0);
        clock.strike(2);
        Check.is("filed", 'l', clock.status(0));
        Check.is("open", 'o', clock.status(1));
        Check.is("struck", 's', clock.status(2));
    }

    private static void serviceOfNoneAndOneDay() {
        TollClock none = served(4, false, 'p');
        checkDue(none, 0, 4);
        checkLeft(none, 0, 4);
        none.extendByOrder(0, 1);
        checkDue(none, 0, 7);
        TollClock one = served(4, false, 'e');
        checkDue(one, 0, 7);                 // Saturday 5 moves to Monday 7
        checkLeft(one, 0, 5);
        one.extendByOrder(0, 1);
        checkDue(one, 0, 8);
        TollClock afterCourtDays = served(4, true, 'm');
        checkDue(afterCourtDays, 0, 7);      // Friday 4 and three calendar days
    }

    private static void extensionsInTheirOrder() {
        TollClock clock = served(4, false, 'p');
        clock.extendByConsent(0, 1);         // Saturday 5 moves to Monday 7
        clock.extendByOrder(0, 3);
        checkDue(clock, 0, 10);
        TollClock other = served(4, false, 'p');
        other.extendByOrder(0, 3);           // Monday 7
        other.extendByConsent(0, 1);
        checkDue(other, 0, 8);
        TollClock all = served(4, false, 'e');
        for (int days = 1; days <= 3; days++) {
            all.extendByOrder(0, days);
        }
        all.extendByConsent(0, 4);
        all.extendByConsent(0, 5);
        // 5 -> 7, then 8, 10, 13 -> 14, 18, 23
        checkDue(all, 0, 23);
        checkLeft(all, 0, 20);
    }

    /** No part of a deadline is taken for one of the next. */
    private static void sevenPartsOfThirtyDeadlines() {
        TollClock clock = withRule(4, false);
        for (int deadline = 0; deadline < 30; deadline++) {
            clock.serve(0, 0, 'm');
            for (int count = 0; count < 3; count++) {
                clock.extendByOrder(deadline, 7);
            }
            clock.extendByConsent(deadline, 7);
            clock.extendByConsent(deadline, 7);
        }
        for (int deadline = 0; deadline < 30; deadline++) {
            checkDue(clock, deadline, 42);   // Friday 4, Monday 7 and five weeks
            checkLeft(clock, deadline, 42);
        }
        Check.is("mean", 42.0, clock.meanDaysLeft());
        Check.is("busiest day", 42, clock.busiestDay());
        Check.is("last of the order", 29, clock.openAt(29));
        clock.advance(43);
        for (int deadline = 0; deadline < 30; deadline++) {
            checkLeft(clock, deadline, 0);
        }
    }

    private static void countingBeginsTheDayAfter() {
        checkDue(served(1, false, 'p'), 0, 1);
        checkDue(served(1, true, 'p'), 0, 1);
        TollClock clock = withRule(1, false);
        clock.advance(4);
        clock.serve(0, 0, 'p');
        checkDue(clock, 0, 7);
        checkLeft(clock, 0, 1);
        clock.advance(1);
        checkLeft(clock, 0, 0);
        TollClock last = withRule(1, false);
        Check.goTo(last, 1500);
        last.serve(0, 0, 'p');
        checkDue(last, 0, 1501);
    }

    private static void stoppedDaysDoNotCount() {
        TollClock clock = served(3, false, 'p');
        clock.serve(1, 0, 'p');
        clock.advance(1);
        clock.stayParty(0, 1);
        clock.advance(1);
        clock.lift(0);
        checkDue(clock, 0, 4);               // 1, 3 and 4
        checkDue(clock, 1, 3);
        checkLeft(clock, 0, 2);
        checkLeft(clock, 1, 1);
        TollClock all = served(1, false, 'p');
        all.stayAll(1);
        all.advance(6);
        all.lift(0);
        checkDue(all, 0, 7);
        checkLeft(all, 0, 1);
    }

    private static void otherDaysCount() {
        TollClock calendar = served(7, false, 'p');
        calendar.addHoliday(1);
        calendar.addHoliday(5);
        checkDue(calendar, 0, 7);
        TollClock court = served(7, true, 'p');
        checkDue(court, 0, 9);
        court.addHoliday(5);
        checkDue(court, 0, 9);
        court.addHoliday(1);
        checkDue(court, 0, 10);
        court.addHoliday(10);
        checkDue(court, 0, 11);
    }

    private static void partsEndAtTheirLength() {
        TollClock clock = withRule(1, true);
        int[] ends = {1, 2, 3, 4, 7, 8, 9, 10, 11, 14};
        for (int length = 1; length <= 10; length++) {
            clock.setRule(0, length, true);
            clock.serve(0, 0, 'p');
            checkDue(clock, length - 1, ends[length - 1]);
        }
    }

    private static void endsMoveToACourtDay() {
        checkDue(served(4, false, 'p'), 0, 4);
        checkDue(served(5, false, 'p'), 0, 7);
        checkDue(served(6, false, 'p'), 0, 7);
        checkDue(served(7, false, 'p'), 0, 7);
        TollClock clock = served(4, false, 'p');
        int[] holidays = {4, 7, 8, 14, 9, 10, 11};
        int[] dues = {7, 8, 9, 9, 10, 11, 15};
        for (int index = 0; index < holidays.length; index++) {
            clock.addHoliday(holidays[index]);
            checkDue(clock, 0, dues[index]);
        }
        checkLeft(clock, 0, 4);
    }

    private static void endsMoveOverStoppedDays() {
        TollClock clock = served(5, false, 'p');
        clock.advance(6);
        clock.stayAll(1);
        clock.advance(1);
        clock.lift(0);                       // 7
        checkDue(clock, 0, 8);
        clock.stayAll(1);
        clock.advance(1);
        clock.lift(1);                       // 8
        checkDue(clock, 0, 9);
        clock.addHoliday(9);
        checkDue(clock, 0, 10);
        clock.advance(1);
        clock.stayAll(1);                    // 10 and later
        checkNoDue(clock, 0);
        clock.advance(3);
        clock.lift(2);                       // up to 12, a Saturday
        checkDue(clock, 0, 14);
        checkLeft(clock, 0, 0);
    }

    private static void nextPartBeginsAfterTheMovedEnd() {
        TollClock moved = served(5, false, 'm');
        checkDue(moved, 0, 10);              // Saturday 5 moves to Monday 7
        TollClock unmoved = served(4, false, 'm');
        checkDue(unmoved, 0, 7);             // Friday 4, with the weekend counted
        TollClock stopped = served(5, false, 'm');
        stopped.advance(6);
        stopped.stayAll(1);
        stopped.advance(3);
        stopped.lift(0);                     // 7 to 9: the end moves to 10
        checkDue(stopped, 0, 14);            // Sunday 13 moves to Monday 14
        checkLeft(stopped, 0, 3);
    }

    private static void dueAtTheLastEnd() {
        TollClock clock = served(5, false, 'e');
        checkDue(clock, 0, 8);
        clock.extendByConsent(0, 4);
        checkDue(clock, 0, 14);              // Saturday 12 moves to Monday 14
        clock.extendByOrder(0, 100);
        checkDue(clock, 0, 114);
    }

    private static void noEndAfterTheLastDay() {
        TollClock clock = served(5, false, 'p');
        clock.advance(5);
        clock.stayAll(1);
        checkNoDue(clock, 0);                // all its days have counted, but its end cannot move
        checkLeft(clock, 0, 0);
        clock.extendByOrder(0, 1);
        checkNoDue(clock, 0);                // nor can a later part begin
        checkLeft(clock, 0, 1);
        TollClock service = served(4, false, 'e');
        service.advance(4);
        service.stayAll(1);
        checkNoDue(service, 0);              // the base part has its end, the part of the service has none
        checkLeft(service, 0, 1);
        TollClock base = served(4, false, 'p');
        base.advance(4);
        base.stayAll(1);
        checkDue(base, 0, 4);
    }

    /** The longest parts after the longest stay, with all holidays on their way. */
    private static void latestDueDay() {
        TollClock clock = withRule(200, true);
        clock.setServiceDays('a', 30);
        clock.stayAll(1);
        clock.serve(0, 0, 'a');
        Check.goTo(clock, 1500);
        checkNoDue(clock, 0);
        clock.lift(0);
        clock.extendByConsent(0, 28);
        for (int count = 0; count < 3; count++) {
            clock.extendByOrder(0, 100);
        }
        for (int count = 0; count < 40; count++) {
            clock.addHoliday(1501 + count);
        }
        // 12 of the holidays lie on weekends: 28 court days more, and then each end moves to a Monday or not at all.
        checkDue(clock, 0, latestByHand());
        checkLeft(clock, 0, 558);
        Check.is("consistent", true, clock.isConsistent());
    }

    private static int latestByHand() {
        int day = 1500;
        for (int left = 200; left > 0; left -= isCourtAfterHolidays(day) ? 1 : 0) {
            day++;
        }
        int[] parts = {30, 28, 100, 100, 100};
        for (int length : parts) {
            day += length;
            while (!isCourtAfterHolidays(day)) {
                day++;
            }
        }
        return day;
    }

    private static boolean isCourtAfterHolidays(int day) {
        return day % 7 < 5 && day > 1540;
    }

    private static void holidaysOfEarlierDays() {
        TollClock clock = served(5, true, 'p');
        clock.advance(20);
        checkDue(clock, 0, 7);
        clock.addHoliday(2);
        checkDue(clock, 0, 8);
        clock.addHoliday(8);
        checkDue(clock, 0, 9);
        clock.removeHoliday(2);
        checkDue(clock, 0, 7);
        TollClock stayed = served(5, true, 'p');
        stayed.stayAll(1);
        stayed.advance(4);
        checkLeft(stayed, 0, 5);
        stayed.lift(0);
        stayed.advance(10);
        checkDue(stayed, 0, 11);
        checkLeft(stayed, 0, 0);
        stayed.addHoliday(7);
        checkDue(stayed, 0, 14);
    }

    private static void presentDayCounts() {
        TollClock clock = served(2, false, 'p');
        checkLeft(clock, 0, 2);
        clock.advance(1);
        checkLeft(clock, 0, 1);
        clock.advance(1);
        checkLeft(clock, 0, 0);
        TollClock court = served(2, true, 'p');
        court.addHoliday(1);
        court.advance(1);
        checkLeft(court, 0, 2);
        court.advance(1);
        checkLeft(court, 0, 1);
    }

    private static void daysLeftFromAllToNone() {
        TollClock clock = served(5, false, 'e');
        clock.extendByOrder(0, 1);
        int[] left = {7, 6, 5, 4, 3, 2, 2, 2, 1, 0, 0};
        for (int day = 0; day < left.length; day++) {
            checkLeft(clock, 0, left[day]);
            clock.advance(1);
        }
        Check.goTo(clock, 1500);
        checkLeft(clock, 0, 0);
    }

    private static void daysLeftWithoutADueDay() {
        TollClock clock = served(5, false, 'e');
        clock.advance(2);
        clock.stayAll(1);
        checkNoDue(clock, 0);
        checkLeft(clock, 0, 4);
        Check.goTo(clock, 1500);
        checkLeft(clock, 0, 4);
        clock.serve(0, 0, 'a');
        checkNoDue(clock, 1);
        checkLeft(clock, 1, 19);
    }

    private static void daysLeftOfEndedDeadlines() {
        TollClock clock = served(5, false, 'e');
        clock.serve(0, 0, 'e');
        clock.serve(0, 0, 'e');
        clock.advance(2);
        clock.strike(0);
        clock.file(1);
        for (int deadline = 0; deadline < 3; deadline++) {
            checkLeft(clock, deadline, 4);
        }
        clock.advance(2);
        for (int deadline = 0; deadline < 3; deadline++) {
            checkLeft(clock, deadline, 2);
        }
    }

    private static void twoConsents() {
        TollClock clock = served(4, false, 'p');
        clock.extendByConsent(0, 1);
        Check.is("second", 2, clock.extendByConsent(0, 1));
        Check.fails("third", IllegalStateException.class, () -> clock.extendByConsent(0, 1));
        Check.fails("third by a program", UnsupportedOperationException.class, () -> Check.run(clock, "more 0 1"));
        clock.serve(0, 0, 'p');
        Check.is("another deadline", 1, clock.extendByConsent(1, 1));
    }

    private static void twentyEightDays() {
        TollClock clock = served(4, false, 'p');
        clock.extendByConsent(0, 14);
        Check.fails("29", UnsupportedOperationException.class, () -> clock.extendByConsent(0, 15));
        Check.is("28", 28, clock.extendByConsent(0, 14));
        clock.undo();
        Check.is("27", 27, clock.extendByConsent(0, 13));
    }

    private static void threeOrders() {
        TollClock clock = served(4, false, 'p');
        clock.extendByOrder(0, 100);
        clock.extendByOrder(0, 100);
        Check.is("third", 300, clock.extendByOrder(0, 100));
        Check.fails("fourth", IllegalStateException.class, () -> clock.extendByOrder(0, 1));
        clock.serve(0, 0, 'p');
        Check.is("another deadline", 1, clock.extendByOrder(1, 1));
    }

    private static void ordersBesideConsents() {
        TollClock clock = served(4, false, 'p');
        clock.extendByConsent(0, 14);
        clock.extendByConsent(0, 14);
        Check.is("an order after 28 days", 128, clock.extendByOrder(0, 100));
        Check.is("a fourth extension", 157, clock.extendByOrder(0, 29));
        Check.is("a fifth extension", 158, clock.extendByOrder(0, 1));
        TollClock ordersFirst = served(4, false, 'p');
        for (int count = 0; count < 3; count++) {
            ordersFirst.extendByOrder(0, 100);
        }
        Check.is("consent after 300 days", 328, ordersFirst.extendByConsent(0, 28));
    }

    private static void atMostTwelveStays() {
        TollClock clock = Check.withParties("a");
        for (int stay = 0; stay < 12; stay++) {
            Check.is("number", stay, stay % 3 == 0 ? clock.stayParty(0, 1) : clock.stayAll(1));
            clock.advance(1);
        }
        Check.fails("one more", IllegalStateException.class, () -> clock.stayAll(1));
        Check.fails("one more by a program", UnsupportedOperationException.class, () -> Check.run(clock, "stay 1"));
        for (int stay = 0; stay < 12; stay++) {
            Check.is("days of " + stay, 12 - stay, clock.lift(stay));
        }
        Check.fails("one more, all lifted", IllegalStateException.class, () -> clock.stayAll(1));
    }

    private static void staysOfLaterDeadlines() {
        TollClock clock = withRule(4, false);
        clock.stayParty(0, 1);
        clock.stayAll(2);
        clock.advance(2);
        clock.serve(0, 0, 'p');
        clock.serve(1, 0, 'p');
        clock.serve(1, 1, 'p');
        Check.is("of its party", true, clock.isStopped(0, 3));
        Check.is("also before its service", true, clock.isStopped(0, 1));
        Check.is("of another party", false, clock.isStopped(1, 3));
        Check.is("of all parties", true, clock.isStopped(2, 3));
        clock.advance(1);
        clock.lift(0);
        clock.serve(0, 0, 'p');
        Check.is("the day of the lifting", true, clock.isStopped(3, 3));
        Check.is("after the lifting", false, clock.isStopped(3, 4));
    }

    private static void checkStopped(TollClock clock, int first, int last) {
        for (int day = Math.max(0, first - 2); day <= last + 2; day++) {
            boolean want = day >= first && day <= last;
            Check.is("stopped on " + day, want, clock.isStopped(0, day));
            Check.is("marked on " + day, want ? 1 : 0, clock.stoppedDaysByMarking(0, day, day));
        }
        Check.is("stopped days", last - first + 1, clock.stoppedDays(0, 0, 4999));
    }

    private static void stoppedFromOrderToLifting() {
        int[][] stays = {{0, 1}, {0, 5}, {4, 5}, {62, 64}, {63, 65}, {63, 126}, {63, 127}, {63, 128}, {64, 127}, {127, 129},
            {127, 190}, {127, 191}};
        for (int[] stay : stays) {
            TollClock clock = served(4, false, 'p');
            Check.goTo(clock, stay[0]);
            clock.stayAll(1);
            Check.goTo(clock, stay[1]);
            clock.lift(0);
            checkStopped(clock, stay[0] + 1, stay[1]);
        }
        TollClock clock = served(4, false, 'p');
        clock.stayAll(1);
        clock.lift(0);
        Check.is("lifted on the day of the order", 0, clock.stoppedDays(0, 0, 4999));
        Check.is("marked", 0, clock.stoppedDaysByMarking(0, 0, 4999));
    }

    private static void stoppedUntilTheLastDay() {
        TollClock clock = served(4, false, 'p');
        Check.goTo(clock, 1500);
        clock.stayAll(1);
        Check.is("day of the order", false, clock.isStopped(0, 1500));
        Check.is("day after", true, clock.isStopped(0, 1501));
        Check.is("last day", true, clock.isStopped(0, 4999));
        Check.is("all", 3499, clock.stoppedDays(0, 0, 4999));
        Check.is("all marked", 3499, clock.stoppedDaysByMarking(0, 0, 4999));
        clock.lift(0);
        Check.is("lifted", 0, clock.stoppedDaysByMarking(0, 0, 4999));
    }

    private static void stoppedByOneOfSeveral() {
        TollClock clock = served(4, false, 'p');
        clock.stayAll(1);                    // 1 to 4
        clock.advance(2);
        clock.stayParty(0, 3);               // 3 to 6
        clock.advance(2);
        clock.lift(0);
        clock.advance(2);
        clock.lift(1);
        clock.stayParty(1, 1);               // of another party
        clock.stayAll(2);                    // of another rule
        checkStopped(clock, 1, 6);
    }

    private static void stoppedByTwelveStaysWithGaps() {
        TollClock clock = served(20, false, 'p');
        for (int stay = 0; stay < 12; stay++) {
            clock.stayAll(1);
            clock.advance(1);
            if (stay < 11) {
                clock.lift(stay);
            }
            clock.advance(1);
        }
        Check.is("odd days, and all from 23 on", 11 + 4999 - 22, clock.stoppedDays(0, 0, 4999));
        Check.is("marked", 11 + 4999 - 22, clock.stoppedDaysByMarking(0, 0, 4999));
        checkLeft(clock, 0, 9);
        checkNoDue(clock, 0);
        clock.lift(11);
        Check.is("odd days and 24", 13, clock.stoppedDaysByMarking(0, 0, 4999));
        checkDue(clock, 0, 35);              // Saturday 33 moves to Monday 35
        checkLeft(clock, 0, 9);
    }

    private static void atMostEightOccurrences() {
        TollClock clock = new TollClock();
        for (int number = 0; number < 8; number++) {
            clock.setRule(0, 1 + number, true);
            Check.is("number", number, clock.addOccurrence(0, 0));
        }
        Check.fails("one more", IllegalStateException.class, () -> clock.addOccurrence(0, 0));
        int[] bars = {1, 2, 3, 4, 7, 8, 9, 10};
        for (int number = 0; number < 8; number++) {
            Check.is("bar day of " + number, bars[number], clock.barDay(number));
        }
    }

    private static void periodsDoNotChange() {
        TollClock clock = new TollClock();
        clock.setRule(0, 5, true);
        clock.addOccurrence(0, 0);
        clock.setRule(0, 200, false);
        Check.is("as it was", 7, clock.barDay(0));
        clock.addOccurrence(0, 0);
        Check.is("as it is", 200, clock.barDay(1));
        clock.setRule(0, 1, true);
        Check.is("as it was then", 200, clock.barDay(1));
    }

    private static void barDayIsTheEndOfTheBasePart() {
        TollClock clock = new TollClock();
        clock.setServiceDays('p', 30);
        clock.setRule(0, 5, false);
        clock.setRule(1, 1, false);
        clock.advance(6);
        clock.addOccurrence(0, 0);
        clock.addOccurrence(6, 1);
        clock.addOccurrence(3, 1);
        Check.is("Saturday moves to Monday", 7, clock.barDay(0));
        Check.is("the day after the occurrence", 7, clock.barDay(1));
        Check.is("not from the present day", 4, clock.barDay(2));
        clock.addHoliday(7);
        Check.is("over a holiday", 8, clock.barDay(1));
    }

    private static void barDayWithEachKindOfStay() {
        TollClock clock = Check.withParties("a", "b", "c", "d", "e", "f", "g", "h");
        clock.setRule(7, 4, false);
        clock.addOccurrence(0, 7);
        for (int party = 0; party < 8; party++) {
            clock.stayParty(party, 255);
        }
        Check.is("stays of each party", 4, clock.barDay(0));
        clock.stayAll(127);
        Check.is("a set without the rule", 4, clock.barDay(0));
        clock.stayAll(128);
        Check.fails("a set of the rule", NoSuchElementException.class, () -> clock.barDay(0));
        clock.advance(1);
        clock.lift(9);
        Check.is("one day", 7, clock.barDay(0));
    }

    private static void sameConductAlongLinks() {
        TollClock clock = new TollClock();
        for (int number = 0; number < 8; number++) {
            clock.addOccurrence(0, 0);
            checkSame(clock, number, number, true);
        }
        checkSame(clock, 0, 7, false);
        for (int number = 7; number > 0; number--) {
            clock.linkOccurrences(number, number - 1);
            checkSame(clock, number, number - 1, true);
            checkSame(clock, 7, number - 1, true);
            checkSame(clock, 0, 7, number == 1);
        }
    }

    private static void checkSame(TollClock clock, int one, int other, boolean want) {
        Check.is(one + " and " + other, want, clock.sameConduct(one, other));
        Check.is(other + " and " + one, want, clock.sameConduct(other, one));
        Check.is("by search " + one + " and " + other, want, clock.sameConductBySearch(one, other));
        Check.is("by search " + other + " and " + one, want, clock.sameConductBySearch(other, one));
    }

    private static void atMostTwentyClaims() {
        TollClock clock = withRule(4, false);
        clock.addOccurrence(0, 0);
        for (int claim = 0; claim < 20; claim++) {
            Check.is("number", claim, clock.fileClaim(claim % 2, 0));
            clock.advance(1);
        }
        Check.fails("one more", IllegalStateException.class, () -> clock.fileClaim(0, 0));
        Check.fails("one more amendment", IllegalStateException.class, () -> clock.amendClaim(0, 0));
        for (int claim = 0; claim < 20; claim++) {
            Check.is("day of " + claim, claim, clock.effectiveDay(claim));
        }
    }

    private static void amendmentsOfEarlierClaims() {
        TollClock clock = withRule(4, false);
        clock.addOccurrence(0, 0);
        Check.fails("no claim yet", IndexOutOfBoundsException.class, () -> clock.amendClaim(0, 0));
        clock.fileClaim(0, 0);
        Check.fails("of itself", IndexOutOfBoundsException.class, () -> clock.amendClaim(1, 0));
        Check.is("of the first", 1, clock.amendClaim(0, 0));
        Check.is("of the first again", 2, clock.amendClaim(0, 0));
        Check.is("of an amendment", 3, clock.amendClaim(2, 0));
    }

    private static void claimsThatAreNoAmendments() {
        TollClock clock = withRule(4, false);
        clock.addOccurrence(0, 0);
        clock.fileClaim(0, 0);
        Check.goTo(clock, 1500);
        clock.fileClaim(0, 0);
        Check.is("on day 0", 0, clock.effectiveDay(0));
        Check.is("on day 1500", 1500, clock.effectiveDay(1));
    }

    private static void amendmentsOfTheSameConduct() {
        TollClock clock = withRule(4, false);
        clock.addOccurrence(0, 0);
        clock.addOccurrence(0, 0);
        clock.addOccurrence(0, 0);
        clock.fileClaim(0, 0);
        clock.advance(1);
        clock.amendClaim(0, 0);
        clock.amendClaim(0, 1);
        clock.advance(1);
        clock.amendClaim(2, 1);
        clock.amendClaim(2, 0);
        int[] days = {0, 0, 1, 1, 2};
        checkEffective(clock, days);
        clock.linkOccurrences(0, 2);
        checkEffective(clock, days);
        clock.linkOccurrences(2, 1);
        checkEffective(clock, 0, 0, 0, 0, 0);
        clock.undo();
        checkEffective(clock, days);
    }

    private static void checkEffective(TollClock clock, int... days) {
        for (int claim = 0; claim < days.length; claim++) {
            Check.is("effective day of " + claim, days[claim], clock.effectiveDay(claim));
        }
    }

    private static void timelyWithoutABarDay() {
        TollClock clock = withRule(4, false);
        clock.addOccurrence(0, 0);
        clock.advance(3);
        clock.stayAll(1);
        Check.goTo(clock, 1500);
        clock.fileClaim(0, 0);
        Check.is("no bar day", true, clock.isTimely(0));
        clock.lift(0);
        Check.is("on the bar day's eve", true, clock.isTimely(0));
        Check.is("bar day", 1501, clock.barDay(0));
    }

    private static void timelyUntilTheBarDay() {
        TollClock clock = withRule(4, false);
        clock.addOccurrence(0, 0);
        boolean[] timely = {true, true, true, true, true, false, false, false};
        for (int day = 0; day < timely.length; day++) {
            clock.fileClaim(0, 0);
            Check.is("filed on " + day, timely[day], clock.isTimely(day));
            clock.advance(1);
        }
        clock.amendClaim(4, 0);
        clock.amendClaim(5, 0);
        Check.is("an amendment by its effective day", true, clock.isTimely(8));
        Check.is("an amendment of a late claim", false, clock.isTimely(9));
        clock.addHoliday(4);
        for (int claim = 0; claim < 10; claim++) {
            Check.is("by the moved bar day", true, clock.isTimely(claim));
        }
    }
}
