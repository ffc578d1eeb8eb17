import java.util.ArrayList;
import java.util.List;
import java.util.NoSuchElementException;

/** Calls that a full docket refuses, for each condition of each exception. */
final class Refusals {
    private static final Class<? extends RuntimeException> INDEX = IndexOutOfBoundsException.class;
    private static final Class<? extends RuntimeException> ARGUMENT = IllegalArgumentException.class;
    private static final Class<? extends RuntimeException> STATE = IllegalStateException.class;
    private static final Class<? extends RuntimeException> ELEMENT = NoSuchElementException.class;
    private static final Class<? extends RuntimeException> OPERATION = UnsupportedOperationException.class;

    interface OfDocket {
        Object answer(TollClock clock);
    }

    /** A call that is refused; a call that empties the text buffer has its content as its text. */
    record Refusal(String what, Class<? extends RuntimeException> want, OfDocket call, String text, int error,
            int failed) {
    }

    private final List<Refusal> all = new ArrayList<>();

    private Refusals() {
    }

    private void add(String what, Class<? extends RuntimeException> want, OfDocket call) {
        all.add(new Refusal(what, want, call, null, FullDocket.ERROR_POSITION, FullDocket.FAILED_COMMAND));
    }

    private void addOfText(String what, Class<? extends RuntimeException> want, OfDocket call, String text) {
        all.add(new Refusal(what, want, call, text, FullDocket.ERROR_POSITION, FullDocket.FAILED_COMMAND));
    }

    private void addOfRun(Class<? extends RuntimeException> want, String text, int error, int failed) {
        all.add(new Refusal("run", want, TollClock::run, text, error, failed));
    }

    /** "A method that throws an exception changes nothing", but for the buffer and what run records. */
    static void changeNothing() {
        Refusals refusals = new Refusals();
        refusals.addOfParties();
        refusals.addOfCalendar();
        refusals.addOfRules();
        refusals.addOfDeadlines();
        refusals.addOfExtensions();
        refusals.addOfStays();
        refusals.addOfClaims();
        refusals.addOfPrograms();
        String untouched = FullDocket.picture(FullDocket.make());
        for (Refusal refusal : refusals.all) {
            changesNothing(refusal, untouched);
        }
    }

    private static void changesNothing(Refusal refusal, String untouched) {
        TollClock clock = FullDocket.make();
        boolean empties = refusal.text() != null;
        Check.type(clock, empties ? refusal.text() : "a");
        Check.fails(refusal.what(), refusal.want(), () -> refusal.call().answer(clock));
        Check.is("docket after " + refusal.what(), untouched, FullDocket.picture(clock));
        if (empties) {
            Check.is("buffer after " + refusal.what(), 1, clock.type('a'));
        }
        Check.is("party of the buffer after " + refusal.what(), 0, clock.findParty());
        Check.is("error position after " + refusal.what(), refusal.error(), clock.errorPosition());
        Check.is("failed command after " + refusal.what(), refusal.failed(), clock.failedCommand());
        for (int left = FullDocket.DAYS - 1; left >= 0; left--) {
            Check.is("undo after " + refusal.what(), left, clock.undo());
            Check.is("today", FullDocket.TODAY - FullDocket.DAYS + left, clock.today());
        }
        Check.fails("no more undo after " + refusal.what(), STATE, clock::undo);
    }

    private void addOfParties() {
        for (String text : new String[] {"", "123456789", "\ud83d"}) {
            addOfText("addParty without a name", ARGUMENT, TollClock::addParty, text);
        }
        addOfText("a ninth party", STATE, TollClock::addParty, "z");
        addOfText("a party of the same name", STATE, TollClock::addParty, "a");
        addOfText("findParty of a new name", ELEMENT, TollClock::findParty, "z");
        addOfText("findParty without a name", ELEMENT, TollClock::findParty, "");
        add("nameLength(8)", INDEX, clock -> clock.nameLength(8));
        add("nameCodePoint(8, 0)", INDEX, clock -> clock.nameCodePoint(8, 0));
        add("nameCodePoint(0, 1)", INDEX, clock -> clock.nameCodePoint(0, 1));
        add("writeNameReversed(8)", INDEX, clock -> clock.writeNameReversed(8));
    }

    private void addOfCalendar() {
        add("advance(0)", ARGUMENT, clock -> clock.advance(0));
        add("advance(401)", ARGUMENT, clock -> clock.advance(401));
        add("advance(2)", STATE, clock -> clock.advance(2));
        add("weekday(5000)", ARGUMENT, clock -> clock.weekday(5000));
        add("isCourtDay(-1)", ARGUMENT, clock -> clock.isCourtDay(-1));
        add("addHoliday(-1)", ARGUMENT, clock -> clock.addHoliday(-1));
        add("addHoliday of a holiday", STATE, clock -> clock.addHoliday(FullDocket.HOLIDAY));
        add("addHoliday of one too many", STATE, clock -> clock.addHoliday(0));
        add("removeHoliday(5000)", ARGUMENT, clock -> clock.removeHoliday(5000));
        add("removeHoliday(0)", ELEMENT, clock -> clock.removeHoliday(0));
        add("courtDays(0, 5000)", ARGUMENT, clock -> clock.courtDays(0, 5000));
        add("courtDays(1, 0)", ARGUMENT, clock -> clock.courtDays(1, 0));
        add("courtDaysByMarking(-1, 0)", ARGUMENT, clock -> clock.courtDaysByMarking(-1, 0));
        add("courtDaysByMarking(1, 0)", ARGUMENT, clock -> clock.courtDaysByMarking(1, 0));
    }

    private void addOfRules() {
        add("setRule(8, 5, true)", INDEX, clock -> clock.setRule(8, 5, true));
        add("setRule(0, 0, true)", ARGUMENT, clock -> clock.setRule(0, 0, true));
        add("setRule(0, 201, true)", ARGUMENT, clock -> clock.setRule(0, 201, true));
        add("ruleLength(8)", INDEX, clock -> clock.ruleLength(8));
        add("countsCourtDays(-1)", INDEX, clock -> clock.countsCourtDays(-1));
        add("setServiceDays('x', 5)", ARGUMENT, clock -> clock.setServiceDays('x', 5));
        add("setServiceDays('p', -1)", ARGUMENT, clock -> clock.setServiceDays('p', -1));
        add("setServiceDays('p', 31)", ARGUMENT, clock -> clock.setServiceDays('p', 31));
        add("serviceDays('x')", ARGUMENT, clock -> clock.serviceDays('x'));
        add("lastDayBefore(8, 10)", INDEX, clock -> clock.lastDayBefore(8, 10));
        add("lastDayBefore(0, 5000)", ARGUMENT, clock -> clock.lastDayBefore(0, 5000));
        add("lastDayBefore(0, 3)", ELEMENT, clock -> clock.lastDayBefore(0, 3));
        add("lastDayBeforeByMarking(8, 10)", INDEX, clock -> clock.lastDayBeforeByMarking(8, 10));
        add("lastDayBeforeByMarking(0, -1)", ARGUMENT, clock -> clock.lastDayBeforeByMarking(0, -1));
        add("lastDayBeforeByMarking(0, 3)", ELEMENT, clock -> clock.lastDayBeforeByMarking(0, 3));
    }

    private void addOfDeadlines() {
        add("serve(8, 0, 'p')", INDEX, clock -> clock.serve(8, 0, 'p'));
        add("serve(0, 8, 'p')", INDEX, clock -> clock.serve(0, 8, 'p'));
        add("serve(0, 0, 'x')", ARGUMENT, clock -> clock.serve(0, 0, 'x'));
        add("serve(0, 0, 'p')", STATE, clock -> clock.serve(0, 0, 'p'));
        add("due(30)", INDEX, clock -> clock.due(30));
        add("due without a due day", ELEMENT, clock -> clock.due(FullDocket.ONE_CONSENT));
        add("dueByMarking(30)", INDEX, clock -> clock.dueByMarking(30));
        add("dueByMarking without a due day", ELEMENT, clock -> clock.dueByMarking(FullDocket.ONE_CONSENT));
        add("daysLeft(30)", INDEX, clock -> clock.daysLeft(30));
        add("daysLeftByMarking(-1)", INDEX, clock -> clock.daysLeftByMarking(-1));
        add("file(30)", INDEX, clock -> clock.file(30));
        add("file of a struck one", STATE, clock -> clock.file(FullDocket.STRUCK));
        add("file of a filed one", STATE, clock -> clock.file(FullDocket.FILED));
        add("strike(30)", INDEX, clock -> clock.strike(30));
        add("strike of a struck one", STATE, clock -> clock.strike(FullDocket.STRUCK));
        add("strike of a filed one", STATE, clock -> clock.strike(FullDocket.FILED));
        add("status(30)", INDEX, clock -> clock.status(30));
        add("openAt(28)", ELEMENT, clock -> clock.openAt(28));
        add("openAt(-1)", ELEMENT, clock -> clock.openAt(-1));
    }

    private void addOfExtensions() {
        add("extendByConsent(30, 5)", INDEX, clock -> clock.extendByConsent(30, 5));
        add("0 days by consent", ARGUMENT, clock -> clock.extendByConsent(FullDocket.ONE_CONSENT, 0));
        add("29 days by consent", ARGUMENT, clock -> clock.extendByConsent(FullDocket.ONE_CONSENT, 29));
        add("a struck one by consent", STATE, clock -> clock.extendByConsent(FullDocket.STRUCK, 5));
        add("a filed one by consent", STATE, clock -> clock.extendByConsent(FullDocket.FILED, 5));
        add("an overdue one by consent", STATE, clock -> clock.extendByConsent(FullDocket.OVERDUE, 5));
        add("a third time by consent", STATE, clock -> clock.extendByConsent(FullDocket.TWO_CONSENTS, 5));
        add("29 days in total", OPERATION, clock -> clock.extendByConsent(FullDocket.ONE_CONSENT, 9));
        add("extendByOrder(30, 5)", INDEX, clock -> clock.extendByOrder(30, 5));
        add("0 days by order", ARGUMENT, clock -> clock.extendByOrder(FullDocket.ONE_CONSENT, 0));
        add("101 days by order", ARGUMENT, clock -> clock.extendByOrder(FullDocket.ONE_CONSENT, 101));
        add("a struck one by order", STATE, clock -> clock.extendByOrder(FullDocket.STRUCK, 5));
        add("a filed one by order", STATE, clock -> clock.extendByOrder(FullDocket.FILED, 5));
        add("a fourth time by order", STATE, clock -> clock.extendByOrder(FullDocket.THREE_ORDERS, 5));
        add("extensionDays(30)", INDEX, clock -> clock.extensionDays(30));
    }

    private void addOfStays() {
        add("stayParty(8, 1)", INDEX, clock -> clock.stayParty(8, 1));
        add("stayParty(0, 0)", ARGUMENT, clock -> clock.stayParty(0, 0));
        add("stayParty(0, 1)", STATE, clock -> clock.stayParty(0, 1));
        add("stayAll(256)", ARGUMENT, clock -> clock.stayAll(256));
        add("stayAll(1)", STATE, clock -> clock.stayAll(1));
        add("lift(12)", INDEX, clock -> clock.lift(12));
        add("lift of a lifted one", STATE, clock -> clock.lift(FullDocket.LIFTED));
        add("isStopped(30, 0)", INDEX, clock -> clock.isStopped(30, 0));
        add("isStopped(0, 5000)", ARGUMENT, clock -> clock.isStopped(0, 5000));
        add("stoppedDays(30, 0, 0)", INDEX, clock -> clock.stoppedDays(30, 0, 0));
        add("stoppedDays(0, 0, 5000)", ARGUMENT, clock -> clock.stoppedDays(0, 0, 5000));
        add("stoppedDays(0, 1, 0)", ARGUMENT, clock -> clock.stoppedDays(0, 1, 0));
        add("stoppedDaysByMarking(30, 0, 0)", INDEX, clock -> clock.stoppedDaysByMarking(30, 0, 0));
        add("stoppedDaysByMarking(0, -1, 0)", ARGUMENT, clock -> clock.stoppedDaysByMarking(0, -1, 0));
        add("stoppedDaysByMarking(0, 1, 0)", ARGUMENT, clock -> clock.stoppedDaysByMarking(0, 1, 0));
    }

    private void addOfClaims() {
        add("addOccurrence of tomorrow", ARGUMENT, clock -> clock.addOccurrence(FullDocket.TODAY + 1, 0));
        add("addOccurrence(0, 8)", INDEX, clock -> clock.addOccurrence(0, 8));
        add("addOccurrence(0, 0)", STATE, clock -> clock.addOccurrence(0, 0));
        add("linkOccurrences(0, 8)", INDEX, clock -> clock.linkOccurrences(0, 8));
        add("linkOccurrences(3, 3)", ARGUMENT, clock -> clock.linkOccurrences(3, 3));
        add("linkOccurrences(0, 1)", STATE, clock -> clock.linkOccurrences(0, 1));
        add("linkOccurrences(2, 1)", STATE, clock -> clock.linkOccurrences(2, 1));
        add("sameConduct(8, 0)", INDEX, clock -> clock.sameConduct(8, 0));
        add("sameConductBySearch(0, 8)", INDEX, clock -> clock.sameConductBySearch(0, 8));
        add("barDay(8)", INDEX, clock -> clock.barDay(8));
        add("barDay without a bar day", ELEMENT, clock -> clock.barDay(FullDocket.NO_BAR_DAY));
        add("fileClaim(8, 0)", INDEX, clock -> clock.fileClaim(8, 0));
        add("fileClaim(0, 8)", INDEX, clock -> clock.fileClaim(0, 8));
        add("fileClaim(0, 0)", STATE, clock -> clock.fileClaim(0, 0));
        add("amendClaim(20, 0)", INDEX, clock -> clock.amendClaim(20, 0));
        add("amendClaim(0, 8)", INDEX, clock -> clock.amendClaim(0, 8));
        add("amendClaim(0, 0)", STATE, clock -> clock.amendClaim(0, 0));
        add("effectiveDay(20)", INDEX, clock -> clock.effectiveDay(20));
        add("isTimely(20)", INDEX, clock -> clock.isTimely(20));
        add("timelyClaims(8)", INDEX, clock -> clock.timelyClaims(8));
    }

    private void addOfPrograms() {
        add("writeDeadline(30)", INDEX, clock -> clock.writeDeadline(30));
        add("charAt(1)", INDEX, clock -> clock.charAt(1));
        add("charAt(-1)", INDEX, clock -> clock.charAt(-1));
        addOfRun(ARGUMENT, "", 0, FullDocket.FAILED_COMMAND);
        addOfRun(ARGUMENT, "day;dax", 6, FullDocket.FAILED_COMMAND);
        addOfRun(OPERATION, "lift 0;stay 1", FullDocket.ERROR_POSITION, 1);
        addOfRun(OPERATION, "day;day;day", FullDocket.ERROR_POSITION, 1);
        addOfRun(OPERATION, "file 0;more 7 8;lift 0;file 7;day;file 7", FullDocket.ERROR_POSITION, 5);
        addOfRun(OPERATION, "serve 0 0 p", FullDocket.ERROR_POSITION, 0);
        addOfRun(OPERATION, "holiday 0", FullDocket.ERROR_POSITION, 0);
    }

    /** "If several conditions for an exception hold, the exception that is listed first is thrown." */
    static void firstListedIsThrown() {
        Refusals refusals = new Refusals();
        refusals.addSeveralOfDeadlines();
        refusals.addSeveralOfExtensions();
        refusals.addSeveralOfStays();
        refusals.addSeveralOfClaims();
        refusals.addSeveralOfOthers();
        for (Refusal refusal : refusals.all) {
            TollClock clock = FullDocket.make();
            Check.type(clock, refusal.text() != null ? refusal.text() : "");
            Check.fails("several conditions: " + refusal.what(), refusal.want(), () -> refusal.call().answer(clock));
        }
    }

    private void addSeveralOfOthers() {
        addOfText("addParty without a name", ARGUMENT, TollClock::addParty, "");
        addOfText("addParty of a long name", ARGUMENT, TollClock::addParty, "123456789");
        add("advance(401)", ARGUMENT, clock -> clock.advance(401));
        add("advance far", ARGUMENT, clock -> clock.advance(Integer.MAX_VALUE));
        add("addHoliday(5000)", ARGUMENT, clock -> clock.addHoliday(5000));
        add("removeHoliday(5000)", ARGUMENT, clock -> clock.removeHoliday(5000));
        add("setRule(8, 0, true)", INDEX, clock -> clock.setRule(8, 0, true));
        add("setRule(-1, 201, true)", INDEX, clock -> clock.setRule(-1, 201, true));
        add("lastDayBefore(8, 5000)", INDEX, clock -> clock.lastDayBefore(8, 5000));
        add("lastDayBefore(8, 0)", INDEX, clock -> clock.lastDayBefore(8, 0));
        add("lastDayBefore(0, -1)", ARGUMENT, clock -> clock.lastDayBefore(0, -1));
        add("lastDayBeforeByMarking(-1, -1)", INDEX, clock -> clock.lastDayBeforeByMarking(-1, -1));
        add("lastDayBeforeByMarking(8, 0)", INDEX, clock -> clock.lastDayBeforeByMarking(8, 0));
        add("lastDayBeforeByMarking(0, -1)", ARGUMENT, clock -> clock.lastDayBeforeByMarking(0, -1));
    }

    private void addSeveralOfDeadlines() {
        add("serve(8, 8, 'x')", INDEX, clock -> clock.serve(8, 8, 'x'));
        add("serve(8, 0, 'x')", INDEX, clock -> clock.serve(8, 0, 'x'));
        add("serve(0, 8, 'x')", INDEX, clock -> clock.serve(0, 8, 'x'));
        add("serve(0, -1, 'p')", INDEX, clock -> clock.serve(0, -1, 'p'));
        add("serve(0, 0, 'x')", ARGUMENT, clock -> clock.serve(0, 0, 'x'));
    }

    private void addSeveralOfExtensions() {
        add("extendByConsent(30, 0)", INDEX, clock -> clock.extendByConsent(30, 0));
        add("extendByConsent(-1, 29)", INDEX, clock -> clock.extendByConsent(-1, 29));
        add("0 days, struck", ARGUMENT, clock -> clock.extendByConsent(FullDocket.STRUCK, 0));
        add("29 days, overdue", ARGUMENT, clock -> clock.extendByConsent(FullDocket.OVERDUE, 29));
        add("29 days, a third time", ARGUMENT, clock -> clock.extendByConsent(FullDocket.TWO_CONSENTS, 29));
        add("29 days, too many in total", ARGUMENT, clock -> clock.extendByConsent(FullDocket.ONE_CONSENT, 29));
        add("a third time, too many in total", STATE, clock -> clock.extendByConsent(FullDocket.TWO_CONSENTS, 28));
        add("overdue, too many in total", STATE, clock -> overdueWithConsent().extendByConsent(0, 28));
        add("struck, too many in total", STATE, clock -> struckWithConsent().extendByConsent(0, 28));
        add("extendByOrder(30, 0)", INDEX, clock -> clock.extendByOrder(30, 0));
        add("extendByOrder(-1, 101)", INDEX, clock -> clock.extendByOrder(-1, 101));
        add("101 days, struck", ARGUMENT, clock -> clock.extendByOrder(FullDocket.STRUCK, 101));
        add("0 days, a fourth time", ARGUMENT, clock -> clock.extendByOrder(FullDocket.THREE_ORDERS, 0));
    }

    private static TollClock overdueWithConsent() {
        TollClock clock = Check.withParties("a");
        clock.serve(0, 0, 'p');
        clock.extendByConsent(0, 1);
        clock.advance(400);
        return clock;
    }

    private static TollClock struckWithConsent() {
        TollClock clock = Check.withParties("a");
        clock.serve(0, 0, 'p');
        clock.extendByConsent(0, 1);
        clock.strike(0);
        return clock;
    }

    private void addSeveralOfStays() {
        add("stayParty(8, 0)", INDEX, clock -> clock.stayParty(8, 0));
        add("stayParty(-1, 1)", INDEX, clock -> clock.stayParty(-1, 1));
        add("stayParty(0, 256)", ARGUMENT, clock -> clock.stayParty(0, 256));
        add("stayAll(0)", ARGUMENT, clock -> clock.stayAll(0));
        add("isStopped(30, -1)", INDEX, clock -> clock.isStopped(30, -1));
        add("stoppedDays(30, -1, 5000)", INDEX, clock -> clock.stoppedDays(30, -1, 5000));
        add("stoppedDays(-1, 1, 0)", INDEX, clock -> clock.stoppedDays(-1, 1, 0));
        add("stoppedDaysByMarking(30, -1, 5000)", INDEX, clock -> clock.stoppedDaysByMarking(30, -1, 5000));
        add("stoppedDaysByMarking(-1, 1, 0)", INDEX, clock -> clock.stoppedDaysByMarking(-1, 1, 0));
    }

    private void addSeveralOfClaims() {
        add("addOccurrence(-1, 8)", ARGUMENT, clock -> clock.addOccurrence(-1, 8));
        add("addOccurrence of tomorrow", ARGUMENT, clock -> clock.addOccurrence(FullDocket.TODAY + 1, 0));
        add("addOccurrence of tomorrow, rule -1", ARGUMENT, clock -> clock.addOccurrence(FullDocket.TODAY + 1, -1));
        add("addOccurrence(0, 8)", INDEX, clock -> clock.addOccurrence(0, 8));
        add("linkOccurrences(8, 8)", INDEX, clock -> clock.linkOccurrences(8, 8));
        add("linkOccurrences(-1, -1)", INDEX, clock -> clock.linkOccurrences(-1, -1));
        add("fileClaim(8, 8)", INDEX, clock -> clock.fileClaim(8, 8));
        add("fileClaim(8, 0)", INDEX, clock -> clock.fileClaim(8, 0));
        add("fileClaim(0, 8)", INDEX, clock -> clock.fileClaim(0, 8));
        add("amendClaim(20, 8)", INDEX, clock -> clock.amendClaim(20, 8));
        add("amendClaim(20, 0)", INDEX, clock -> clock.amendClaim(20, 0));
        add("amendClaim(0, 8)", INDEX, clock -> clock.amendClaim(0, 8));
    }
}
