/** A docket that holds as much of everything as there can be, and what can be seen of a docket. */
final class FullDocket {
    static final int TODAY = 1499;
    static final int STRUCK = 1;
    static final int FILED = 3;
    static final int OVERDUE = 0;
    /** Its extensions by consent grant 20 days; like the next two it has no due day. */
    static final int ONE_CONSENT = 7;
    static final int TWO_CONSENTS = 15;
    static final int THREE_ORDERS = 23;
    static final int LIFTED = 11;
    static final int NO_BAR_DAY = 7;
    static final int HOLIDAY = 1001;
    static final int ERROR_POSITION = 2;
    static final int FAILED_COMMAND = 1;
    /** Its latest changes, as many as can be undone: days one after the other. */
    static final int DAYS = 8;

    private FullDocket() {
    }

    static TollClock make() {
        TollClock clock = Check.withParties("a", "b", "c", "d", "e", "f", "g", "h");
        for (int count = 0; count < 40; count++) {
            clock.addHoliday(HOLIDAY + 7 * count);
        }
        addStays(clock);
        addDeadlines(clock);
        addClaims(clock);
        Check.fails("no program", IllegalArgumentException.class, () -> Check.run(clock, "dax"));
        Check.fails("failing", UnsupportedOperationException.class, () -> Check.run(clock, "day;day 0"));
        clock.writeNameReversed(0);
        Check.goTo(clock, TODAY - DAYS);
        for (int count = 0; count < DAYS; count++) {
            clock.advance(1);
        }
        return clock;
    }

    /** From day 0 on, the deadlines of rule 7 are stopped. */
    private static void addStays(TollClock clock) {
        for (int stay = 0; stay < 12; stay++) {
            if (stay % 2 == 0) {
                clock.stayAll(128);
            } else {
                clock.stayParty(7, 128);
            }
        }
        clock.lift(LIFTED);
    }

    private static void addDeadlines(TollClock clock) {
        clock.setRule(0, 4, false);
        for (int deadline = 0; deadline < 30; deadline++) {
            clock.serve(deadline % 8, deadline % 8, "pema".charAt(deadline % 4));
        }
        clock.strike(STRUCK);
        clock.file(FILED);
        clock.extendByConsent(ONE_CONSENT, 20);
        clock.extendByConsent(TWO_CONSENTS, 1);
        clock.extendByConsent(TWO_CONSENTS, 1);
        for (int count = 0; count < 3; count++) {
            clock.extendByOrder(THREE_ORDERS, 1);
        }
    }

    private static void addClaims(TollClock clock) {
        for (int number = 0; number < 8; number++) {
            clock.addOccurrence(0, number);
        }
        clock.linkOccurrences(0, 1);
        clock.linkOccurrences(1, 2);
        for (int claim = 0; claim < 20; claim++) {
            if (claim < 10) {
                clock.fileClaim(claim % 8, claim % 8);
            } else {
                clock.amendClaim(claim - 10, claim % 8);
            }
        }
    }

    /** What can be seen of a docket, but for the text buffer and what run records. */
    static String picture(TollClock clock) {
        StringBuilder text = new StringBuilder();
        addPartiesAndRules(clock, text);
        for (int deadline = 0; deadline < clock.deadlines(); deadline++) {
            int number = deadline;
            text.append(clock.status(deadline)).append(clock.daysLeft(deadline)).append(' ');
            text.append(clock.extensionDays(deadline)).append(seen(() -> clock.due(number)));
        }
        text.append(clock.staysInForce()).append(clock.overdue()).append(seen(() -> clock.openAt(0)));
        for (int number = 0; number < 8; number++) {
            int same = number;
            text.append(seen(() -> clock.stoppedDays(same, 0, 4999))).append(seen(() -> clock.barDay(same)));
            text.append(seen(() -> clock.sameConduct(0, same))).append(seen(() -> clock.timelyClaims(same)));
        }
        for (int claim = 0; claim < 21; claim++) {
            int number = claim;
            text.append(seen(() -> clock.effectiveDay(number)));
        }
        for (int index = 0; index < 9; index++) {
            int place = index;
            text.append(seen(() -> clock.charAt(place)));
        }
        return text.toString();
    }

    private static void addPartiesAndRules(TollClock clock, StringBuilder text) {
        text.append(clock.today()).append(' ').append(clock.parties()).append(' ');
        text.append(clock.courtDays(0, 4999)).append(' ').append(clock.courtDays(0, HOLIDAY)).append(' ');
        for (int number = 0; number < 8; number++) {
            int same = number;
            text.append(seen(() -> clock.nameLength(same))).append(seen(() -> clock.nameCodePoint(same, 0)));
            text.append(clock.ruleLength(number)).append(clock.countsCourtDays(number));
        }
        for (char way : "pema".toCharArray()) {
            text.append(clock.serviceDays(way)).append(way);
        }
    }

    static String seen(Check.Call call) {
        try {
            return call.answer() + " ";
        } catch (RuntimeException thrown) {
            return thrown.getClass().getSimpleName() + " ";
        }
    }
}
