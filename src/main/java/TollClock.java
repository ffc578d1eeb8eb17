import java.util.NoSuchElementException;

/** A docket of court deadlines. */
public final class TollClock {
    private static final int LAST_DAY = 4999;
    // The day after the last one stands for "no day": so it sorts behind every due day.
    private static final int NO_DAY = LAST_DAY + 1;
    private static final int LAST_PRESENT_DAY = 1500;
    private static final int MAX_ADVANCE = 400;
    private static final int WEEK = 7;
    private static final int WORK_WEEK = 5;
    private static final int MAX_TEXT = 60;
    private static final int MAX_PARTIES = 8;
    private static final int MAX_NAME = 8;
    private static final int MAX_HOLIDAYS = 40;
    private static final int RULES = 8;
    private static final int MAX_RULE_LENGTH = 200;
    private static final int LAST_RULE_SET = 255;
    private static final int MAX_SERVICE_DAYS = 30;
    private static final int MAX_DEADLINES = 30;
    private static final int MAX_CONSENTS = 2;
    private static final int MAX_CONSENT_DAYS = 28;
    private static final int MAX_ORDERS = 3;
    private static final int MAX_ORDER_DAYS = 100;
    // The base part, the part of the way of service, and one part for each extension.
    private static final int MAX_PARTS = 2 + MAX_CONSENTS + MAX_ORDERS;
    private static final int MAX_STAYS = 12;
    private static final int MAX_OCCURRENCES = 8;
    private static final int MAX_CLAIMS = 20;
    private static final int MAX_UNDO = 8;
    // The shortest command and its semicolon, "day;", take four characters; one more can begin.
    private static final int MAX_COMMANDS = MAX_TEXT / 4 + 1;

    private static final int ALL_PARTIES = -1;
    private static final int NONE = -1;

    // What a change answers instead of its result (which is never negative) if it is refused.
    private static final int BAD_INDEX = -1;
    private static final int BAD_ARGUMENT = -2;
    private static final int BAD_STATE = -3;
    private static final int NOT_SUPPORTED = -4;
    private static final int NO_ELEMENT = -5;

    private static final int SERVE = 0;
    private static final int DAY = 1;
    private static final int STAY = 2;
    private static final int LIFT = 3;
    private static final int MORE = 4;
    private static final int FILE = 5;
    private static final int HOLIDAY = 6;
    private static final int VERBS = 7;

    private final Text buffer = new Text();
    private final Text line = new Text();
    private final int[] name = new int[MAX_NAME];
    private final Docket docket = new Docket();
    // One place more than can be undone: a change that is refused must not cost the oldest one.
    private final Docket[] past = new Docket[MAX_UNDO + 1];
    private int nextPast;
    private int undoable;
    private final Weeks weeks = new Weeks(docket.calendar, docket.stays);
    private final Marks marks = new Marks(docket.calendar, docket.stays);
    private final int[] openDues = new int[MAX_DEADLINES];
    private final Program program = new Program();
    private int errorPosition = NONE;
    private int failedCommand = NONE;

    /** Creates a docket without parties, holidays, deadlines, stays, occurrences and claims. */
    public TollClock() {
    }

    // ---- parties

    /** Appends a character to the text buffer; returns the number of characters in it. */
    public int type(char character) throws IllegalStateException {
        if (buffer.length >= MAX_TEXT) {
            throw new IllegalStateException("the text buffer is full");
        }
        buffer.append(character);
        return buffer.length;
    }

    /** Adds a party whose name is the content of the text buffer; returns its number. */
    public int addParty() throws IllegalArgumentException, IllegalStateException {
        setAside();
        return settle(tryAddParty());
    }

    /** Finds the party whose name is the content of the text buffer. */
    public int findParty() throws NoSuchElementException {
        int length = buffer.readName(name);
        buffer.clear();
        int party = docket.parties.find(name, length);
        if (party == NONE) {
            throw new NoSuchElementException("no party has this name");
        }
        return party;
    }

    /** Returns the number of parties. */
    public int parties() {
        return docket.parties.count;
    }

    /** Returns the number of code points of the name of a party. */
    public int nameLength(int party) throws IndexOutOfBoundsException {
        needParty(party);
        return docket.parties.lengths[party];
    }

    /** Returns a code point of the name of a party. */
    public int nameCodePoint(int party, int index) throws IndexOutOfBoundsException {
        needParty(party);
        if (index < 0 || index >= docket.parties.lengths[party]) {
            throw new IndexOutOfBoundsException("no such code point");
        }
        return docket.parties.points[party * MAX_NAME + index];
    }

    /** Writes the code points of a name in reverse order to the output line; returns its length. */
    public int writeNameReversed(int party) throws IndexOutOfBoundsException {
        needParty(party);
        line.clear();
        for (int index = docket.parties.lengths[party] - 1; index >= 0; index--) {
            line.appendCodePoint(docket.parties.points[party * MAX_NAME + index]);
        }
        return line.length;
    }

    private int tryAddParty() {
        int length = buffer.readName(name);
        buffer.clear();
        if (length == 0) {
            return BAD_ARGUMENT;
        }
        if (docket.parties.count >= MAX_PARTIES || docket.parties.find(name, length) != NONE) {
            return BAD_STATE;
        }
        return docket.parties.add(name, length);
    }

    private void needParty(int party) {
        if (!docket.parties.has(party)) {
            throw new IndexOutOfBoundsException("no such party");
        }
    }

    // ---- calendar

    /** Returns the present day. */
    public int today() {
        return docket.calendar.today;
    }

    /** Moves the present day forward; returns the present day afterwards. */
    public int advance(int days) throws IllegalArgumentException, IllegalStateException {
        setAside();
        return settle(tryAdvance(days));
    }

    /** Returns the day of the week, 0 for Monday to 6 for Sunday. */
    public int weekday(int day) throws IllegalArgumentException {
        needDay(day);
        return day % WEEK;
    }

    /** Returns whether a day is a court day. */
    public boolean isCourtDay(int day) throws IllegalArgumentException {
        needDay(day);
        return docket.calendar.isCourt(day);
    }

    /** Adds a holiday; returns the number of holidays afterwards. */
    public int addHoliday(int day) throws IllegalArgumentException, IllegalStateException {
        setAside();
        return settle(tryAddHoliday(day));
    }

    /** Removes a holiday; returns the number of holidays afterwards. */
    public int removeHoliday(int day) throws IllegalArgumentException, NoSuchElementException {
        setAside();
        return settle(tryRemoveHoliday(day));
    }

    /** Returns the number of court days in a range of days, by counting whole weeks. */
    public int courtDays(int first, int last) throws IllegalArgumentException {
        needRange(first, last);
        return docket.calendar.countCourt(first, last);
    }

    /** Returns the same number, by looking at one day after the other. */
    public int courtDaysByMarking(int first, int last) throws IllegalArgumentException {
        needRange(first, last);
        return marks.countCourt(first, last);
    }

    private int tryAdvance(int days) {
        if (days < 1 || days > MAX_ADVANCE) {
            return BAD_ARGUMENT;
        }
        if (docket.calendar.today + days > LAST_PRESENT_DAY) {
            return BAD_STATE;
        }
        docket.calendar.today += days;
        return docket.calendar.today;
    }

    private int tryAddHoliday(int day) {
        if (!isDay(day)) {
            return BAD_ARGUMENT;
        }
        if (docket.calendar.isHoliday(day) || docket.calendar.holidayCount >= MAX_HOLIDAYS) {
            return BAD_STATE;
        }
        docket.calendar.insertHoliday(day);
        return docket.calendar.holidayCount;
    }

    private int tryRemoveHoliday(int day) {
        if (!isDay(day)) {
            return BAD_ARGUMENT;
        }
        if (!docket.calendar.isHoliday(day)) {
            return NO_ELEMENT;
        }
        docket.calendar.deleteHoliday(day);
        return docket.calendar.holidayCount;
    }

    private static boolean isDay(int day) {
        return day >= 0 && day <= LAST_DAY;
    }

    private static void needDay(int day) {
        if (!isDay(day)) {
            throw new IllegalArgumentException("no such day");
        }
    }

    private static void needRange(int first, int last) {
        if (!isDay(first) || !isDay(last) || last < first) {
            throw new IllegalArgumentException("no such range of days");
        }
    }

    // ---- rules and ways of service

    /** Changes a rule; returns its previous length. */
    public int setRule(int rule, int length, boolean inCourtDays)
            throws IndexOutOfBoundsException, IllegalArgumentException {
        setAside();
        return settle(trySetRule(rule, length, inCourtDays));
    }

    /** Returns the length of a rule. */
    public int ruleLength(int rule) throws IndexOutOfBoundsException {
        needRule(rule);
        return docket.rules.lengths[rule];
    }

    /** Returns whether a rule counts court days. */
    public boolean countsCourtDays(int rule) throws IndexOutOfBoundsException {
        needRule(rule);
        return docket.rules.inCourtDays[rule];
    }

    /** Changes the number of days that a way of service adds; returns the previous number. */
    public int setServiceDays(char way, int days) throws IllegalArgumentException {
        setAside();
        return settle(trySetServiceDays(way, days));
    }

    /** Returns the number of days that a way of service adds. */
    public int serviceDays(char way) throws IllegalArgumentException {
        int place = Rules.placeOfWay(way);
        if (place == NONE) {
            throw new IllegalArgumentException("no such way of service");
        }
        return docket.rules.serviceDays[place];
    }

    /** Counts back from a day as a rule counts, by counting whole weeks. */
    public int lastDayBefore(int rule, int day)
            throws IndexOutOfBoundsException, IllegalArgumentException, NoSuchElementException {
        needRule(rule);
        needDay(day);
        return needNotBeforeDayZero(
                weeks.countBack(day, docket.rules.lengths[rule], docket.rules.inCourtDays[rule]));
    }

    /** Returns the same day, by looking at one day after the other. */
    public int lastDayBeforeByMarking(int rule, int day)
            throws IndexOutOfBoundsException, IllegalArgumentException, NoSuchElementException {
        needRule(rule);
        needDay(day);
        return needNotBeforeDayZero(
                marks.countBack(day, docket.rules.lengths[rule], docket.rules.inCourtDays[rule]));
    }

    private int trySetRule(int rule, int length, boolean inCourtDays) {
        if (!isRule(rule)) {
            return BAD_INDEX;
        }
        if (length < 1 || length > MAX_RULE_LENGTH) {
            return BAD_ARGUMENT;
        }
        int previous = docket.rules.lengths[rule];
        docket.rules.lengths[rule] = length;
        docket.rules.inCourtDays[rule] = inCourtDays;
        return previous;
    }

    private int trySetServiceDays(char way, int days) {
        int place = Rules.placeOfWay(way);
        if (place == NONE || days < 0 || days > MAX_SERVICE_DAYS) {
            return BAD_ARGUMENT;
        }
        int previous = docket.rules.serviceDays[place];
        docket.rules.serviceDays[place] = days;
        return previous;
    }

    private static boolean isRule(int rule) {
        return rule >= 0 && rule < RULES;
    }

    private static void needRule(int rule) {
        if (!isRule(rule)) {
            throw new IndexOutOfBoundsException("no such rule");
        }
    }

    private static int needNotBeforeDayZero(int day) {
        if (day < 0) {
            throw new NoSuchElementException("the day would be before day 0");
        }
        return day;
    }

    // ---- deadlines

    /** Serves a paper on a party on the present day; returns the number of the new deadline. */
    public int serve(int party, int rule, char way)
            throws IndexOutOfBoundsException, IllegalArgumentException, IllegalStateException {
        setAside();
        return settle(tryServe(party, rule, way));
    }

    /** Returns the number of deadlines, whether they are open or not. */
    public int deadlines() {
        return docket.deadlines.count;
    }

    /** Returns the due day of a deadline, by counting whole weeks and skipping whole stays. */
    public int due(int deadline) throws IndexOutOfBoundsException, NoSuchElementException {
        needDeadline(deadline);
        return needSomeDay(weeks.endOf(docket.deadlines, deadline));
    }

    /** Returns the same day, by looking at one day after the other. */
    public int dueByMarking(int deadline) throws IndexOutOfBoundsException, NoSuchElementException {
        needDeadline(deadline);
        return needSomeDay(marks.endOf(docket.deadlines, deadline));
    }

    /** Returns the days left of a deadline, by counting whole weeks and skipping whole stays. */
    public int daysLeft(int deadline) throws IndexOutOfBoundsException {
        needDeadline(deadline);
        return docket.deadlines.sumOfParts(deadline)
                - weeks.countedUntil(docket.deadlines, deadline, docket.calendar.today);
    }

    /** Returns the same number, by looking at one day after the other. */
    public int daysLeftByMarking(int deadline) throws IndexOutOfBoundsException {
        needDeadline(deadline);
        return docket.deadlines.sumOfParts(deadline)
                - marks.countedUntil(docket.deadlines, deadline, docket.calendar.today);
    }

    /** Extends a deadline by consent; returns the days that all its extensions have granted. */
    public int extendByConsent(int deadline, int days)
            throws IndexOutOfBoundsException, IllegalArgumentException, IllegalStateException,
            UnsupportedOperationException {
        setAside();
        return settle(tryExtendByConsent(deadline, days));
    }

    /** Extends a deadline by order; returns the days that all its extensions have granted. */
    public int extendByOrder(int deadline, int days)
            throws IndexOutOfBoundsException, IllegalArgumentException, IllegalStateException {
        setAside();
        return settle(tryExtendByOrder(deadline, days));
    }

    /** Returns the number of days that all extensions of a deadline have granted. */
    public int extensionDays(int deadline) throws IndexOutOfBoundsException {
        needDeadline(deadline);
        return docket.deadlines.grantedDays[deadline];
    }

    /** Files the answer to the paper of a deadline; returns whether it is in time. */
    public boolean file(int deadline) throws IndexOutOfBoundsException, IllegalStateException {
        setAside();
        return settle(tryFile(deadline)) == 1;
    }

    /** Strikes a deadline; returns the number of open deadlines afterwards. */
    public int strike(int deadline) throws IndexOutOfBoundsException, IllegalStateException {
        setAside();
        return settle(tryStrike(deadline));
    }

    /** Returns the status of a deadline: 'o' open, 't' in time, 'l' late, 's' struck. */
    public char status(int deadline) throws IndexOutOfBoundsException {
        needDeadline(deadline);
        return docket.deadlines.states[deadline];
    }

    /** Returns the open deadline at a position of the order by due days and numbers. */
    public int openAt(int position) throws NoSuchElementException {
        findOpenDues();
        for (int deadline = 0; deadline < docket.deadlines.count; deadline++) {
            if (docket.deadlines.isOpen(deadline) && countOpenAhead(deadline) == position) {
                return deadline;
            }
        }
        throw new NoSuchElementException("no open deadline at this position");
    }

    /** Returns the number of open deadlines whose due day is before the present day. */
    public int overdue() {
        findOpenDues();
        int late = 0;
        for (int deadline = 0; deadline < docket.deadlines.count; deadline++) {
            if (docket.deadlines.isOpen(deadline) && openDues[deadline] < docket.calendar.today) {
                late++;
            }
        }
        return late;
    }

    /** Returns the day that is the due day of the most open deadlines, of several the earliest. */
    public int busiestDay() throws NoSuchElementException {
        findOpenDues();
        int busiest = NO_DAY;
        int most = 0;
        for (int deadline = 0; deadline < docket.deadlines.count; deadline++) {
            int day = openDues[deadline];
            int dueThen = docket.deadlines.isOpen(deadline) && day != NO_DAY ? countOpenDueOn(day) : 0;
            if (dueThen > most || (dueThen == most && dueThen > 0 && day < busiest)) {
                most = dueThen;
                busiest = day;
            }
        }
        return needSomeDay(busiest);
    }

    /** Returns the mean of the days left of all open deadlines. */
    public double meanDaysLeft() throws ArithmeticException {
        int sum = 0;
        int open = 0;
        for (int deadline = 0; deadline < docket.deadlines.count; deadline++) {
            if (docket.deadlines.isOpen(deadline)) {
                sum += docket.deadlines.sumOfParts(deadline)
                        - weeks.countedUntil(docket.deadlines, deadline, docket.calendar.today);
                open++;
            }
        }
        if (open == 0) {
            throw new ArithmeticException("no open deadline");
        }
        return (double) sum / (double) open;
    }

    private int tryServe(int party, int rule, char way) {
        if (!docket.parties.has(party) || !isRule(rule)) {
            return BAD_INDEX;
        }
        int place = Rules.placeOfWay(way);
        if (place == NONE) {
            return BAD_ARGUMENT;
        }
        if (docket.deadlines.count >= MAX_DEADLINES) {
            return BAD_STATE;
        }
        int deadline = docket.deadlines.add(party, rule, docket.calendar.today, docket.rules);
        if (docket.rules.serviceDays[place] > 0) {
            docket.deadlines.addPart(deadline, docket.rules.serviceDays[place]);
        }
        return deadline;
    }

    private int tryExtendByConsent(int deadline, int days) {
        if (!docket.deadlines.has(deadline)) {
            return BAD_INDEX;
        }
        if (days < 1 || days > MAX_CONSENT_DAYS) {
            return BAD_ARGUMENT;
        }
        if (!docket.deadlines.isOpen(deadline)
                || weeks.endOf(docket.deadlines, deadline) < docket.calendar.today
                || docket.deadlines.consents[deadline] >= MAX_CONSENTS) {
            return BAD_STATE;
        }
        if (docket.deadlines.consentDays[deadline] + days > MAX_CONSENT_DAYS) {
            return NOT_SUPPORTED;
        }
        docket.deadlines.consents[deadline]++;
        docket.deadlines.consentDays[deadline] += days;
        return docket.deadlines.grant(deadline, days);
    }

    private int tryExtendByOrder(int deadline, int days) {
        if (!docket.deadlines.has(deadline)) {
            return BAD_INDEX;
        }
        if (days < 1 || days > MAX_ORDER_DAYS) {
            return BAD_ARGUMENT;
        }
        if (!docket.deadlines.isOpen(deadline) || docket.deadlines.orders[deadline] >= MAX_ORDERS) {
            return BAD_STATE;
        }
        docket.deadlines.orders[deadline]++;
        return docket.deadlines.grant(deadline, days);
    }

    private int tryFile(int deadline) {
        if (!docket.deadlines.has(deadline)) {
            return BAD_INDEX;
        }
        if (!docket.deadlines.isOpen(deadline)) {
            return BAD_STATE;
        }
        boolean late = weeks.endOf(docket.deadlines, deadline) < docket.calendar.today;
        docket.deadlines.states[deadline] = late ? 'l' : 't';
        return late ? 0 : 1;
    }

    private int tryStrike(int deadline) {
        if (!docket.deadlines.has(deadline)) {
            return BAD_INDEX;
        }
        if (!docket.deadlines.isOpen(deadline)) {
            return BAD_STATE;
        }
        docket.deadlines.states[deadline] = 's';
        return docket.deadlines.countOpen();
    }

    private void needDeadline(int deadline) {
        if (!docket.deadlines.has(deadline)) {
            throw new IndexOutOfBoundsException("no such deadline");
        }
    }

    private static int needSomeDay(int day) {
        if (day == NO_DAY) {
            throw new NoSuchElementException("no such day up to the last one");
        }
        return day;
    }

    private void findOpenDues() {
        for (int deadline = 0; deadline < docket.deadlines.count; deadline++) {
            openDues[deadline] = docket.deadlines.isOpen(deadline)
                    ? weeks.endOf(docket.deadlines, deadline) : NO_DAY;
        }
    }

    private int countOpenAhead(int deadline) {
        int ahead = 0;
        for (int other = 0; other < docket.deadlines.count; other++) {
            boolean earlier = openDues[other] < openDues[deadline]
                    || (openDues[other] == openDues[deadline] && other < deadline);
            if (docket.deadlines.isOpen(other) && earlier) {
                ahead++;
            }
        }
        return ahead;
    }

    private int countOpenDueOn(int day) {
        int dueThen = 0;
        for (int deadline = 0; deadline < docket.deadlines.count; deadline++) {
            if (docket.deadlines.isOpen(deadline) && openDues[deadline] == day) {
                dueThen++;
            }
        }
        return dueThen;
    }

    // ---- stays

    /** Orders a stay for one party on the present day; returns its number. */
    public int stayParty(int party, int rules)
            throws IndexOutOfBoundsException, IllegalArgumentException, IllegalStateException {
        setAside();
        return settle(tryStayParty(party, rules));
    }

    /** Orders a stay for all parties on the present day; returns its number. */
    public int stayAll(int rules) throws IllegalArgumentException, IllegalStateException {
        setAside();
        return settle(tryStay(ALL_PARTIES, rules));
    }

    /** Lifts a stay on the present day; returns the number of days that it stopped. */
    public int lift(int stay) throws IndexOutOfBoundsException, IllegalStateException {
        setAside();
        return settle(tryLift(stay));
    }

    /** Returns the number of stays that have not been lifted. */
    public int staysInForce() {
        return docket.stays.countInForce();
    }

    /** Returns whether a day is stopped for a deadline. */
    public boolean isStopped(int deadline, int day)
            throws IndexOutOfBoundsException, IllegalArgumentException {
        needDeadline(deadline);
        needDay(day);
        return weeks.countStopped(docket.deadlines, deadline, day, day) == 1;
    }

    /** Returns how many days of a range are stopped for a deadline, by adding up ranges. */
    public int stoppedDays(int deadline, int first, int last)
            throws IndexOutOfBoundsException, IllegalArgumentException {
        needDeadline(deadline);
        needRange(first, last);
        return weeks.countStopped(docket.deadlines, deadline, first, last);
    }

    /** Returns the same number, by marking each stopped day with one bit. */
    public int stoppedDaysByMarking(int deadline, int first, int last)
            throws IndexOutOfBoundsException, IllegalArgumentException {
        needDeadline(deadline);
        needRange(first, last);
        return marks.countStopped(docket.deadlines, deadline, first, last);
    }

    private int tryStayParty(int party, int rules) {
        return docket.parties.has(party) ? tryStay(party, rules) : BAD_INDEX;
    }

    private int tryStay(int party, int rules) {
        if (rules < 1 || rules > LAST_RULE_SET) {
            return BAD_ARGUMENT;
        }
        if (docket.stays.count >= MAX_STAYS) {
            return BAD_STATE;
        }
        return docket.stays.add(party, rules, docket.calendar.today);
    }

    private int tryLift(int stay) {
        if (!docket.stays.has(stay)) {
            return BAD_INDEX;
        }
        if (!docket.stays.isInForce(stay)) {
            return BAD_STATE;
        }
        docket.stays.lastDays[stay] = docket.calendar.today;
        return docket.calendar.today - docket.stays.orderDays[stay];
    }

    // ---- occurrences and claims

    /** Adds an occurrence; returns its number. */
    public int addOccurrence(int day, int rule)
            throws IllegalArgumentException, IndexOutOfBoundsException, IllegalStateException {
        setAside();
        return settle(tryAddOccurrence(day, rule));
    }

    /** Links two occurrences; returns the number of groups of occurrences afterwards. */
    public int linkOccurrences(int one, int other)
            throws IndexOutOfBoundsException, IllegalArgumentException, IllegalStateException {
        setAside();
        return settle(tryLinkOccurrences(one, other));
    }

    /** Returns whether two occurrences are of the same conduct, by joining them to groups. */
    public boolean sameConduct(int one, int other) throws IndexOutOfBoundsException {
        needOccurrence(one);
        needOccurrence(other);
        return docket.claims.inSameGroup(one, other);
    }

    /** Returns the same, by a depth-first search along the links. */
    public boolean sameConductBySearch(int one, int other) throws IndexOutOfBoundsException {
        needOccurrence(one);
        needOccurrence(other);
        return docket.claims.isReached(one, other);
    }

    /** Returns the bar day of an occurrence. */
    public int barDay(int occurrence) throws IndexOutOfBoundsException, NoSuchElementException {
        needOccurrence(occurrence);
        return needSomeDay(weeks.endOf(docket.claims.periods, occurrence));
    }

    /** Files a claim on the present day; returns its number. */
    public int fileClaim(int party, int occurrence)
            throws IndexOutOfBoundsException, IllegalStateException {
        setAside();
        return settle(tryFileClaim(party, occurrence));
    }

    /** Amends a claim on the present day; returns the number of the new claim. */
    public int amendClaim(int claim, int occurrence)
            throws IndexOutOfBoundsException, IllegalStateException {
        setAside();
        return settle(tryAmendClaim(claim, occurrence));
    }

    /** Returns the effective day of a claim. */
    public int effectiveDay(int claim) throws IndexOutOfBoundsException {
        needClaim(claim);
        return docket.claims.effectiveDayOf(claim);
    }

    /** Returns whether a claim is timely. */
    public boolean isTimely(int claim) throws IndexOutOfBoundsException {
        needClaim(claim);
        return meetsBar(claim);
    }

    /** Returns the number of timely claims of a party, amendments included. */
    public int timelyClaims(int party) throws IndexOutOfBoundsException {
        needParty(party);
        int timely = 0;
        for (int claim = 0; claim < docket.claims.count; claim++) {
            if (docket.claims.parties[claim] == party && meetsBar(claim)) {
                timely++;
            }
        }
        return timely;
    }

    private int tryAddOccurrence(int day, int rule) {
        if (day < 0 || day > docket.calendar.today) {
            return BAD_ARGUMENT;
        }
        if (!isRule(rule)) {
            return BAD_INDEX;
        }
        if (docket.claims.periods.count >= MAX_OCCURRENCES) {
            return BAD_STATE;
        }
        return docket.claims.keepOccurrence(rule, day, docket.rules);
    }

    private int tryLinkOccurrences(int one, int other) {
        if (!docket.claims.periods.has(one) || !docket.claims.periods.has(other)) {
            return BAD_INDEX;
        }
        if (one == other) {
            return BAD_ARGUMENT;
        }
        if (docket.claims.areLinked(one, other)) {
            return BAD_STATE;
        }
        docket.claims.link(one, other);
        return docket.claims.countGroups();
    }

    private int tryFileClaim(int party, int occurrence) {
        if (!docket.parties.has(party) || !docket.claims.periods.has(occurrence)) {
            return BAD_INDEX;
        }
        if (docket.claims.count >= MAX_CLAIMS) {
            return BAD_STATE;
        }
        return docket.claims.addClaim(party, occurrence, docket.calendar.today, NONE);
    }

    private int tryAmendClaim(int claim, int occurrence) {
        if (!docket.claims.has(claim) || !docket.claims.periods.has(occurrence)) {
            return BAD_INDEX;
        }
        if (docket.claims.count >= MAX_CLAIMS) {
            return BAD_STATE;
        }
        return docket.claims.addClaim(docket.claims.parties[claim], occurrence,
                docket.calendar.today, claim);
    }

    private void needOccurrence(int occurrence) {
        if (!docket.claims.periods.has(occurrence)) {
            throw new IndexOutOfBoundsException("no such occurrence");
        }
    }

    private void needClaim(int claim) {
        if (!docket.claims.has(claim)) {
            throw new IndexOutOfBoundsException("no such claim");
        }
    }

    private boolean meetsBar(int claim) {
        // NO_DAY is later than every effective day: without a bar day a claim is timely.
        int bar = weeks.endOf(docket.claims.periods, docket.claims.occurrences[claim]);
        return docket.claims.effectiveDayOf(claim) <= bar;
    }

    // ---- output and invariants

    /** Writes a deadline to the output line; returns the number of characters of the line. */
    public int writeDeadline(int deadline) throws IndexOutOfBoundsException {
        needDeadline(deadline);
        int day = weeks.endOf(docket.deadlines, deadline);
        line.clear();
        line.appendNumber(deadline);
        line.append(':');
        line.append(docket.deadlines.states[deadline]);
        line.appendNumber(docket.deadlines.parties[deadline]);
        line.append('>');
        if (day == NO_DAY) {
            line.append('-');
        } else {
            line.appendNumber(day);
        }
        if (docket.deadlines.grantedDays[deadline] > 0) {
            line.append('+');
            line.appendNumber(docket.deadlines.grantedDays[deadline]);
        }
        return line.length;
    }

    /** Returns a character of the output line. */
    public char charAt(int index) throws IndexOutOfBoundsException {
        if (index < 0 || index >= line.length) {
            throw new IndexOutOfBoundsException("no such character");
        }
        return line.signAt(index);
    }

    /** Checks that both ways of computing each result agree. */
    public boolean isConsistent() {
        for (int deadline = 0; deadline < docket.deadlines.count; deadline++) {
            if (!deadlineAgrees(deadline)) {
                return false;
            }
        }
        return conductAgrees() && courtDaysAgree();
    }

    private boolean deadlineAgrees(int deadline) {
        int today = docket.calendar.today;
        Deadlines all = docket.deadlines;
        return weeks.endOf(all, deadline) == marks.endOf(all, deadline)
                && weeks.countedUntil(all, deadline, today) == marks.countedUntil(all, deadline, today)
                && weeks.countStopped(all, deadline, 0, today)
                == marks.countStopped(all, deadline, 0, today);
    }

    private boolean conductAgrees() {
        for (int one = 0; one < docket.claims.periods.count; one++) {
            for (int other = 0; other < docket.claims.periods.count; other++) {
                if (docket.claims.inSameGroup(one, other) != docket.claims.isReached(one, other)) {
                    return false;
                }
            }
        }
        return true;
    }

    private boolean courtDaysAgree() {
        int today = docket.calendar.today;
        return docket.calendar.countCourt(0, today) == marks.countCourt(0, today);
    }

    // ---- programs and undo

    /** Executes the content of the text buffer as a program; returns the number of commands. */
    public int run() throws IllegalArgumentException, UnsupportedOperationException {
        int error = program.parse(buffer);
        buffer.clear();
        if (error != NONE) {
            errorPosition = error;
            throw new IllegalArgumentException("not a program");
        }
        setAside();
        for (int command = 0; command < program.count; command++) {
            if (execute(command) < 0) {
                takeBack();
                failedCommand = command;
                throw new UnsupportedOperationException("a command failed");
            }
        }
        return settle(program.count);
    }

    /** Returns the error position of the latest content that was not a program. */
    public int errorPosition() throws NoSuchElementException {
        if (errorPosition == NONE) {
            throw new NoSuchElementException("every content was a program");
        }
        return errorPosition;
    }

    /** Returns the number of the latest command that failed. */
    public int failedCommand() throws NoSuchElementException {
        if (failedCommand == NONE) {
            throw new NoSuchElementException("no command failed");
        }
        return failedCommand;
    }

    /** Undoes the latest change; returns the number of changes that can still be undone. */
    public int undo() throws IllegalStateException {
        if (undoable == 0) {
            throw new IllegalStateException("no change can be undone");
        }
        nextPast = nextPast == 0 ? MAX_UNDO : nextPast - 1;
        takeBack();
        undoable--;
        return undoable;
    }

    private int execute(int command) {
        int first = program.firsts[command];
        int second = program.seconds[command];
        switch (program.verbs[command]) {
            case SERVE:
                return tryServe(first, second, program.ways[command]);
            case DAY:
                return tryAdvance(first);
            case STAY:
                return tryStay(ALL_PARTIES, first);
            case LIFT:
                return tryLift(first);
            case MORE:
                return tryExtendByConsent(first, second);
            case FILE:
                return tryFile(first);
            default:
                return tryAddHoliday(first);
        }
    }

    /** Keeps the docket as it is before a change, in the place that no undoable change uses. */
    private void setAside() {
        Docket place = past[nextPast];
        if (place == null) {
            place = new Docket();
            past[nextPast] = place;
        }
        place.copy(docket);
    }

    private void takeBack() {
        Docket before = past[nextPast];
        if (before != null) {
            docket.copy(before);
        }
    }

    /** Passes the answer of a change on, which can be undone from now on, or throws its refusal. */
    private int settle(int answer) {
        switch (answer) {
            case BAD_INDEX:
                throw new IndexOutOfBoundsException("no such number");
            case BAD_ARGUMENT:
                throw new IllegalArgumentException("argument out of range");
            case BAD_STATE:
                throw new IllegalStateException("not possible in this state");
            case NOT_SUPPORTED:
                throw new UnsupportedOperationException("too many days by consent");
            case NO_ELEMENT:
                throw new NoSuchElementException("not a holiday");
            default:
                nextPast = nextPast == MAX_UNDO ? 0 : nextPast + 1;
                undoable = Math.min(MAX_UNDO, undoable + 1);
                return answer;
        }
    }

    /** A short row of characters: the text buffer, or the output line. */
    private static final class Text {
        private final char[] signs = new char[MAX_TEXT];
        private int length;

        void clear() {
            length = 0;
        }

        void append(char sign) {
            if (length < MAX_TEXT) {
                signs[length] = sign;
                length++;
            }
        }

        void appendCodePoint(int point) {
            if (point < 0x10000) {
                append((char) point);
            } else {
                append((char) (0xD800 + ((point - 0x10000) >> 10)));
                append((char) (0xDC00 + ((point - 0x10000) & 0x3FF)));
            }
        }

        /** Appends a number from 0 to 9999. */
        void appendNumber(int number) {
            for (int unit = 1000; unit > 0; unit /= 10) {
                if (number >= unit || unit == 1) {
                    append((char) ('0' + number / unit % 10));
                }
            }
        }

        /** Returns a character; behind the end it is the one with the number 0. */
        char signAt(int index) {
            return index >= 0 && index < length ? signs[index] : (char) 0;
        }

        /** Reads the whole text as a name; returns its number of code points, or 0 if it is none. */
        int readName(int[] points) {
            int count = 0;
            int at = 0;
            while (at < length) {
                int sign = signs[at];
                boolean pair = isHigh(sign) && isLow(signAt(at + 1));
                if (count >= points.length || (!pair && (isHigh(sign) || isLow(sign)))) {
                    return 0;
                }
                points[count] = pair ? joinPair(sign, signAt(at + 1)) : sign;
                count++;
                at += pair ? 2 : 1;
            }
            return count;
        }

        private static boolean isHigh(int sign) {
            return sign >= 0xD800 && sign <= 0xDBFF;
        }

        private static boolean isLow(int sign) {
            return sign >= 0xDC00 && sign <= 0xDFFF;
        }

        private static int joinPair(int high, int low) {
            return 0x10000 + ((high - 0xD800) << 10) + (low - 0xDC00);
        }
    }

    /** All that an undone change takes back. */
    private static final class Docket {
        private final Parties parties = new Parties();
        private final Calendar calendar = new Calendar();
        private final Rules rules = new Rules();
        private final Deadlines deadlines = new Deadlines();
        private final Stays stays = new Stays();
        private final Claims claims = new Claims();

        void copy(Docket other) {
            parties.copy(other.parties);
            calendar.copy(other.calendar);
            rules.copy(other.rules);
            deadlines.copy(other.deadlines);
            stays.copy(other.stays);
            claims.copy(other.claims);
        }
    }

    /** The names of the parties, as rows of code points one behind the other. */
    private static final class Parties {
        private final int[] points = new int[MAX_PARTIES * MAX_NAME];
        private final int[] lengths = new int[MAX_PARTIES];
        private int count;

        void copy(Parties other) {
            System.arraycopy(other.points, 0, points, 0, points.length);
            System.arraycopy(other.lengths, 0, lengths, 0, lengths.length);
            count = other.count;
        }

        boolean has(int party) {
            return party >= 0 && party < count;
        }

        int add(int[] name, int length) {
            if (count >= MAX_PARTIES) {
                return BAD_STATE;
            }
            System.arraycopy(name, 0, points, count * MAX_NAME, name.length);
            lengths[count] = length;
            count++;
            return count - 1;
        }

        int find(int[] name, int length) {
            for (int party = 0; party < count; party++) {
                if (isNamed(party, name, length)) {
                    return party;
                }
            }
            return NONE;
        }

        private boolean isNamed(int party, int[] name, int length) {
            if (lengths[party] != length) {
                return false;
            }
            for (int index = 0; index < length; index++) {
                if (points[party * MAX_NAME + index] != name[index]) {
                    return false;
                }
            }
            return true;
        }
    }

    /** The present day and the holidays. */
    private static final class Calendar {
        private int today;
        private final int[] holidays = new int[MAX_HOLIDAYS];
        private int holidayCount;

        void copy(Calendar other) {
            today = other.today;
            System.arraycopy(other.holidays, 0, holidays, 0, holidays.length);
            holidayCount = other.holidayCount;
        }

        boolean isHoliday(int day) {
            return placeOf(day) != NONE;
        }

        boolean isCourt(int day) {
            return day % WEEK < WORK_WEEK && placeOf(day) == NONE;
        }

        void insertHoliday(int day) {
            if (holidayCount < MAX_HOLIDAYS) {
                holidays[holidayCount] = day;
                holidayCount++;
            }
        }

        void deleteHoliday(int day) {
            int place = placeOf(day);
            if (place != NONE) {
                holidayCount--;
                holidays[place] = holidays[holidayCount];
            }
        }

        private int placeOf(int day) {
            for (int place = 0; place < holidayCount; place++) {
                if (holidays[place] == day) {
                    return place;
                }
            }
            return NONE;
        }

        /** Counts the court days of a range: whole weeks, the days of the rest, less the holidays. */
        int countCourt(int first, int last) {
            if (last < first) {
                return 0;
            }
            int wholeWeeks = (last - first + 1) / WEEK;
            int count = wholeWeeks * WORK_WEEK;
            for (int day = first + wholeWeeks * WEEK; day <= last; day++) {
                count += day % WEEK < WORK_WEEK ? 1 : 0;
            }
            for (int place = 0; place < holidayCount; place++) {
                int day = holidays[place];
                count -= day >= first && day <= last && day % WEEK < WORK_WEEK ? 1 : 0;
            }
            return count;
        }
    }

    /** The rules and the ways of service. */
    private static final class Rules {
        private final int[] lengths = new int[RULES];
        private final boolean[] inCourtDays = new boolean[RULES];
        private final int[] serviceDays = {0, 1, 3, 14};

        Rules() {
            for (int rule = 0; rule < RULES; rule++) {
                lengths[rule] = 10 + 10 * rule;
                inCourtDays[rule] = rule % 2 == 1;
            }
        }

        void copy(Rules other) {
            System.arraycopy(other.lengths, 0, lengths, 0, lengths.length);
            System.arraycopy(other.inCourtDays, 0, inCourtDays, 0, inCourtDays.length);
            System.arraycopy(other.serviceDays, 0, serviceDays, 0, serviceDays.length);
        }

        static int placeOfWay(char way) {
            switch (way) {
                case 'p':
                    return 0;
                case 'e':
                    return 1;
                case 'm':
                    return 2;
                case 'a':
                    return 3;
                default:
                    return NONE;
            }
        }
    }

    /** Deadlines with their parts. Limitation periods are kept so too, with a base part alone. */
    private static final class Deadlines {
        private final int[] parties = new int[MAX_DEADLINES];
        private final int[] rules = new int[MAX_DEADLINES];
        private final int[] startDays = new int[MAX_DEADLINES];
        private final boolean[] inCourtDays = new boolean[MAX_DEADLINES];
        private final int[] partCounts = new int[MAX_DEADLINES];
        private final int[] parts = new int[MAX_DEADLINES * MAX_PARTS];
        private final int[] consents = new int[MAX_DEADLINES];
        private final int[] consentDays = new int[MAX_DEADLINES];
        private final int[] orders = new int[MAX_DEADLINES];
        private final int[] grantedDays = new int[MAX_DEADLINES];
        private final char[] states = new char[MAX_DEADLINES];
        private int count;

        void copy(Deadlines other) {
            System.arraycopy(other.parties, 0, parties, 0, parties.length);
            System.arraycopy(other.rules, 0, rules, 0, rules.length);
            System.arraycopy(other.startDays, 0, startDays, 0, startDays.length);
            System.arraycopy(other.inCourtDays, 0, inCourtDays, 0, inCourtDays.length);
            System.arraycopy(other.partCounts, 0, partCounts, 0, partCounts.length);
            System.arraycopy(other.parts, 0, parts, 0, parts.length);
            System.arraycopy(other.consents, 0, consents, 0, consents.length);
            System.arraycopy(other.consentDays, 0, consentDays, 0, consentDays.length);
            System.arraycopy(other.orders, 0, orders, 0, orders.length);
            System.arraycopy(other.grantedDays, 0, grantedDays, 0, grantedDays.length);
            System.arraycopy(other.states, 0, states, 0, states.length);
            count = other.count;
        }

        boolean has(int deadline) {
            return deadline >= 0 && deadline < count;
        }

        boolean isOpen(int deadline) {
            return states[deadline] == 'o';
        }

        int countOpen() {
            int open = 0;
            for (int deadline = 0; deadline < count; deadline++) {
                open += isOpen(deadline) ? 1 : 0;
            }
            return open;
        }

        int add(int party, int rule, int startDay, Rules all) {
            if (count >= MAX_DEADLINES) {
                return BAD_STATE;
            }
            int deadline = count;
            parties[deadline] = party;
            rules[deadline] = rule;
            startDays[deadline] = startDay;
            inCourtDays[deadline] = all.inCourtDays[rule];
            partCounts[deadline] = 0;
            consents[deadline] = 0;
            consentDays[deadline] = 0;
            orders[deadline] = 0;
            grantedDays[deadline] = 0;
            states[deadline] = 'o';
            count++;
            addPart(deadline, all.lengths[rule]);
            return deadline;
        }

        void addPart(int deadline, int length) {
            if (partCounts[deadline] < MAX_PARTS) {
                parts[deadline * MAX_PARTS + partCounts[deadline]] = length;
                partCounts[deadline]++;
            }
        }

        int grant(int deadline, int days) {
            addPart(deadline, days);
            grantedDays[deadline] += days;
            return grantedDays[deadline];
        }

        int lengthOfPart(int deadline, int part) {
            return parts[deadline * MAX_PARTS + part];
        }

        boolean partCountsCourt(int deadline, int part) {
            return part == 0 && inCourtDays[deadline];
        }

        int sumOfParts(int deadline) {
            int sum = 0;
            for (int part = 0; part < partCounts[deadline]; part++) {
                sum += lengthOfPart(deadline, part);
            }
            return sum;
        }
    }

    /** The stays, in the order of the days on which they were ordered. */
    private static final class Stays {
        private final int[] parties = new int[MAX_STAYS];
        private final int[] ruleSets = new int[MAX_STAYS];
        private final int[] orderDays = new int[MAX_STAYS];
        // The last stopped day; while a stay is in force, this is the last day of all.
        private final int[] lastDays = new int[MAX_STAYS];
        private int count;

        void copy(Stays other) {
            System.arraycopy(other.parties, 0, parties, 0, parties.length);
            System.arraycopy(other.ruleSets, 0, ruleSets, 0, ruleSets.length);
            System.arraycopy(other.orderDays, 0, orderDays, 0, orderDays.length);
            System.arraycopy(other.lastDays, 0, lastDays, 0, lastDays.length);
            count = other.count;
        }

        boolean has(int stay) {
            return stay >= 0 && stay < count;
        }

        int add(int party, int ruleSet, int day) {
            if (count >= MAX_STAYS) {
                return BAD_STATE;
            }
            parties[count] = party;
            ruleSets[count] = ruleSet;
            orderDays[count] = day;
            lastDays[count] = LAST_DAY;
            count++;
            return count - 1;
        }

        boolean isInForce(int stay) {
            return lastDays[stay] == LAST_DAY;
        }

        int countInForce() {
            int inForce = 0;
            for (int stay = 0; stay < count; stay++) {
                inForce += isInForce(stay) ? 1 : 0;
            }
            return inForce;
        }

        boolean concerns(int stay, int party, int rule) {
            boolean concernsParty = parties[stay] == ALL_PARTIES || parties[stay] == party;
            return concernsParty && (ruleSets[stay] >> rule & 1) == 1;
        }
    }

    /** The occurrences with their links, and the claims. */
    private static final class Claims {
        // The periods concern ALL_PARTIES: so only the stays for all parties stop their days.
        private final Deadlines periods = new Deadlines();
        private final int[] links = new int[MAX_OCCURRENCES];
        // The lowest occurrence of the group to which an occurrence belongs.
        private final int[] groups = new int[MAX_OCCURRENCES];
        private final int[] parties = new int[MAX_CLAIMS];
        private final int[] occurrences = new int[MAX_CLAIMS];
        private final int[] fileDays = new int[MAX_CLAIMS];
        private final int[] amended = new int[MAX_CLAIMS];
        private int count;

        void copy(Claims other) {
            periods.copy(other.periods);
            System.arraycopy(other.links, 0, links, 0, links.length);
            System.arraycopy(other.groups, 0, groups, 0, groups.length);
            System.arraycopy(other.parties, 0, parties, 0, parties.length);
            System.arraycopy(other.occurrences, 0, occurrences, 0, occurrences.length);
            System.arraycopy(other.fileDays, 0, fileDays, 0, fileDays.length);
            System.arraycopy(other.amended, 0, amended, 0, amended.length);
            count = other.count;
        }

        boolean has(int claim) {
            return claim >= 0 && claim < count;
        }

        int keepOccurrence(int rule, int day, Rules all) {
            if (periods.count >= MAX_OCCURRENCES) {
                return BAD_STATE;
            }
            int occurrence = periods.add(ALL_PARTIES, rule, day, all);
            links[occurrence] = 0;
            groups[occurrence] = occurrence;
            return occurrence;
        }

        boolean areLinked(int one, int other) {
            return (links[one] >> other & 1) == 1;
        }

        void link(int one, int other) {
            links[one] |= 1 << other;
            links[other] |= 1 << one;
            int lower = Math.min(groups[one], groups[other]);
            int higher = Math.max(groups[one], groups[other]);
            for (int occurrence = 0; occurrence < periods.count; occurrence++) {
                if (groups[occurrence] == higher) {
                    groups[occurrence] = lower;
                }
            }
        }

        int countGroups() {
            int different = 0;
            for (int occurrence = 0; occurrence < periods.count; occurrence++) {
                different += groups[occurrence] == occurrence ? 1 : 0;
            }
            return different;
        }

        boolean inSameGroup(int one, int other) {
            return groups[one] == groups[other];
        }

        boolean isReached(int one, int other) {
            return (visit(links, one, 0, 0) >> other & 1) == 1;
        }

        /** Visits depth first what is not visited yet; returns all visited occurrences as bits. */
        private static int visit(int[] links, int from, int visited, int depth) {
            if (depth >= MAX_OCCURRENCES) {
                return visited;
            }
            int reached = visited | 1 << from;
            for (int next = 0; next < MAX_OCCURRENCES; next++) {
                if ((links[from] >> next & 1) == 1 && (reached >> next & 1) == 0) {
                    reached = visit(links, next, reached, depth + 1);
                }
            }
            return reached;
        }

        int addClaim(int party, int occurrence, int day, int amendedClaim) {
            if (count >= MAX_CLAIMS) {
                return BAD_STATE;
            }
            parties[count] = party;
            occurrences[count] = occurrence;
            fileDays[count] = day;
            amended[count] = amendedClaim;
            count++;
            return count - 1;
        }

        int effectiveDayOf(int claim) {
            int at = claim;
            for (int steps = 0; steps < count && relatesBack(at); steps++) {
                at = amended[at];
            }
            return fileDays[at];
        }

        private boolean relatesBack(int claim) {
            int earlier = amended[claim];
            return earlier != NONE && inSameGroup(occurrences[claim], occurrences[earlier]);
        }
    }

    /** Counting by arithmetic: whole weeks and whole ranges of stopped days at once. */
    private static final class Weeks {
        private final Calendar calendar;
        private final Stays stays;
        // The stopped days of the deadline that is asked for: rising ranges with gaps between.
        private final int[] firsts = new int[MAX_STAYS];
        private final int[] lasts = new int[MAX_STAYS];
        private int ranges;

        Weeks(Calendar calendar, Stays stays) {
            this.calendar = calendar;
            this.stays = stays;
        }

        private void takeStays(Deadlines all, int deadline) {
            ranges = 0;
            for (int stay = 0; stay < stays.count; stay++) {
                if (stays.concerns(stay, all.parties[deadline], all.rules[deadline])) {
                    joinRange(stays.orderDays[stay] + 1, stays.lastDays[stay]);
                }
            }
        }

        private void joinRange(int first, int last) {
            // A stay that was lifted on the day of its order stops no day.
            if (last < first) {
                return;
            }
            // Later stays never begin earlier, so only the latest range can touch this one.
            if (ranges > 0 && first <= lasts[ranges - 1] + 1) {
                lasts[ranges - 1] = Math.max(lasts[ranges - 1], last);
            } else if (ranges < MAX_STAYS) {
                firsts[ranges] = first;
                lasts[ranges] = last;
                ranges++;
            }
        }

        int countStopped(Deadlines all, int deadline, int first, int last) {
            takeStays(all, deadline);
            int stopped = 0;
            for (int range = 0; range < ranges; range++) {
                int from = Math.max(first, firsts[range]);
                int to = Math.min(last, lasts[range]);
                stopped += Math.max(0, to - from + 1);
            }
            return stopped;
        }

        /** Returns the end of the last part of a deadline, or NO_DAY. */
        int endOf(Deadlines all, int deadline) {
            takeStays(all, deadline);
            int end = all.startDays[deadline];
            for (int part = 0; part < all.partCounts[deadline] && end <= LAST_DAY; part++) {
                boolean inCourtDays = all.partCountsCourt(deadline, part);
                end = moveEnd(dayOfCount(end + 1, all.lengthOfPart(deadline, part), inCourtDays));
            }
            return end;
        }

        int countedUntil(Deadlines all, int deadline, int until) {
            takeStays(all, deadline);
            int counted = 0;
            int from = all.startDays[deadline] + 1;
            for (int part = 0; part < all.partCounts[deadline] && from <= until; part++) {
                int length = all.lengthOfPart(deadline, part);
                boolean inCourtDays = all.partCountsCourt(deadline, part);
                int full = dayOfCount(from, length, inCourtDays);
                counted += full <= until ? length : countFree(from, until, inCourtDays);
                from = moveEnd(full) + 1;
            }
            return counted;
        }

        /** Returns the day on which a count that begins with a day becomes a number, or NO_DAY. */
        private int dayOfCount(int from, int number, boolean inCourtDays) {
            int day = from;
            int left = number;
            for (int range = 0; range <= ranges; range++) {
                int free = countDays(day, lastDayOfGap(range), inCourtDays);
                if (free >= left) {
                    return inCourtDays ? courtDayOfCount(day, left) : day + left - 1;
                }
                left -= free;
                day = dayBehindRange(range, day);
            }
            return NO_DAY;
        }

        private int countFree(int first, int last, boolean inCourtDays) {
            int free = 0;
            int day = first;
            for (int range = 0; range <= ranges; range++) {
                free += countDays(day, Math.min(last, lastDayOfGap(range)), inCourtDays);
                day = dayBehindRange(range, day);
            }
            return free;
        }

        private int lastDayOfGap(int range) {
            return range < ranges ? firsts[range] - 1 : LAST_DAY;
        }

        private int dayBehindRange(int range, int day) {
            return range < ranges ? Math.max(day, lasts[range] + 1) : NO_DAY;
        }

        private int countDays(int first, int last, boolean inCourtDays) {
            return inCourtDays ? calendar.countCourt(first, last) : Math.max(0, last - first + 1);
        }

        /** Returns the court day with a number, counted from 1 on a day, or NO_DAY. */
        private int courtDayOfCount(int from, int number) {
            int day = from;
            int left = number;
            // A week has at most five court days: so the day that is looked for is never skipped.
            // Both numbers of weeks are at least 1, so each step goes on.
            while (left > WORK_WEEK && day + WEEK <= LAST_DAY) {
                int step = WEEK * Math.min((left - 1) / WORK_WEEK, (LAST_DAY - day) / WEEK);
                left -= calendar.countCourt(day, day + step - 1);
                day += step;
            }
            while (day <= LAST_DAY) {
                left -= calendar.isCourt(day) ? 1 : 0;
                if (left == 0) {
                    return day;
                }
                day++;
            }
            return NO_DAY;
        }

        /** Returns the first court day from a day on that is not stopped, or NO_DAY. */
        private int moveEnd(int end) {
            int day = skipRange(end);
            for (int moves = 0; moves <= LAST_DAY && day <= LAST_DAY && !calendar.isCourt(day); moves++) {
                day = skipRange(day + 1);
            }
            return day;
        }

        private int skipRange(int day) {
            for (int range = 0; range < ranges; range++) {
                if (day >= firsts[range] && day <= lasts[range]) {
                    return lasts[range] + 1;
                }
            }
            return day;
        }

        /** Counts back from a day, which is not counted itself; a result below 0 is no day. */
        int countBack(int day, int length, boolean inCourtDays) {
            int end = inCourtDays ? dayOfCountBack(day - 1, length) : day - length;
            while (end >= 0 && !calendar.isCourt(end)) {
                end--;
            }
            return end;
        }

        private int dayOfCountBack(int from, int number) {
            int day = from;
            int left = number;
            // As in courtDayOfCount, no step skips the day, and each is at least a week.
            while (left > WORK_WEEK && day >= WEEK) {
                int step = WEEK * Math.min((left - 1) / WORK_WEEK, day / WEEK);
                left -= calendar.countCourt(day - step + 1, day);
                day -= step;
            }
            while (day >= 0) {
                left -= calendar.isCourt(day) ? 1 : 0;
                if (left == 0) {
                    return day;
                }
                day--;
            }
            return NONE;
        }
    }

    /** Counting by marking: a bit for each holiday and each stopped day, one day after the other. */
    private static final class Marks {
        private static final int WORD = 64;
        private static final int WORDS = LAST_DAY / WORD + 1;
        private final Calendar calendar;
        private final Stays stays;
        private final long[] holidays = new long[WORDS];
        private final long[] stopped = new long[WORDS];
        // What the latest walk found.
        private int counted;
        private int end;

        Marks(Calendar calendar, Stays stays) {
            this.calendar = calendar;
            this.stays = stays;
        }

        private void markHolidays() {
            clear(holidays);
            for (int place = 0; place < calendar.holidayCount; place++) {
                mark(holidays, calendar.holidays[place], calendar.holidays[place]);
            }
        }

        private void markStays(Deadlines all, int deadline) {
            clear(stopped);
            for (int stay = 0; stay < stays.count; stay++) {
                if (stays.concerns(stay, all.parties[deadline], all.rules[deadline])) {
                    mark(stopped, stays.orderDays[stay] + 1, stays.lastDays[stay]);
                }
            }
        }

        private static void clear(long[] bits) {
            for (int word = 0; word < WORDS; word++) {
                bits[word] = 0L;
            }
        }

        private static void mark(long[] bits, int first, int last) {
            if (first < 0 || last > LAST_DAY) {
                return;
            }
            int day = first;
            while (day <= last) {
                // Whole words at once, where a long stay marks all of them.
                boolean whole = day % WORD == 0 && day + WORD - 1 <= last;
                bits[day / WORD] |= whole ? -1L : 1L << (day % WORD);
                day += whole ? WORD : 1;
            }
        }

        private static boolean isMarked(long[] bits, int day) {
            return isDay(day) && (bits[day / WORD] >>> (day % WORD) & 1L) == 1L;
        }

        private boolean isCourt(int day) {
            return day % WEEK < WORK_WEEK && !isMarked(holidays, day);
        }

        int countCourt(int first, int last) {
            markHolidays();
            int count = 0;
            for (int day = first; day <= last; day++) {
                count += isCourt(day) ? 1 : 0;
            }
            return count;
        }

        int countStopped(Deadlines all, int deadline, int first, int last) {
            markStays(all, deadline);
            int count = 0;
            for (int day = first; day <= last; day++) {
                count += isMarked(stopped, day) ? 1 : 0;
            }
            return count;
        }

        /** Returns the end of the last part of a deadline, or NO_DAY. */
        int endOf(Deadlines all, int deadline) {
            walk(all, deadline, LAST_DAY);
            return end;
        }

        int countedUntil(Deadlines all, int deadline, int until) {
            walk(all, deadline, until);
            return counted;
        }

        private void walk(Deadlines all, int deadline, int last) {
            markHolidays();
            markStays(all, deadline);
            int partCount = all.partCounts[deadline];
            int part = 0;
            int inPart = 0;
            counted = 0;
            end = NO_DAY;
            for (int day = all.startDays[deadline] + 1; day <= last && part < partCount; day++) {
                if (isMarked(stopped, day)) {
                    continue;
                }
                boolean court = isCourt(day);
                int length = all.lengthOfPart(deadline, part);
                if (inPart < length && (court || !all.partCountsCourt(deadline, part))) {
                    inPart++;
                    counted++;
                }
                // A part whose days have all counted waits for a court day to end on.
                if (inPart == length && court) {
                    part++;
                    inPart = 0;
                    end = part == partCount ? day : NO_DAY;
                }
            }
        }

        /** Counts back from a day, which is not counted itself; a result below 0 is no day. */
        int countBack(int day, int length, boolean inCourtDays) {
            markHolidays();
            int count = 0;
            for (int earlier = day - 1; earlier >= 0; earlier--) {
                boolean court = isCourt(earlier);
                count += court || !inCourtDays ? 1 : 0;
                if (count >= length && court) {
                    return earlier;
                }
            }
            return NONE;
        }
    }

    /** The commands of a program. */
    private static final class Program {
        private final int[] verbs = new int[MAX_COMMANDS];
        private final int[] firsts = new int[MAX_COMMANDS];
        private final int[] seconds = new int[MAX_COMMANDS];
        private final char[] ways = new char[MAX_COMMANDS];
        private int count;
        // The character that is read next; where reading fails, the error position.
        private int at;

        /** Reads a text; returns its error position, or NONE if it is a program. */
        int parse(Text text) {
            count = 0;
            at = 0;
            boolean fits = readCommand(text);
            for (int read = 1; fits && at < text.length && read < MAX_COMMANDS; read++) {
                fits = readSign(text, ';') && readCommand(text);
            }
            return fits && at == text.length ? NONE : at;
        }

        private boolean readCommand(Text text) {
            int verb = readVerb(text);
            if (verb == NONE || count >= MAX_COMMANDS) {
                return false;
            }
            verbs[count] = verb;
            boolean fits = readValues(text, verb);
            count++;
            return fits;
        }

        /** Reads the word with which a command begins; no such word begins another one. */
        private int readVerb(Text text) {
            int longest = 0;
            for (int verb = 0; verb < VERBS; verb++) {
                String word = wordOf(verb);
                int common = countCommon(text, word);
                if (common == word.length()) {
                    at += common;
                    return verb;
                }
                longest = Math.max(longest, common);
            }
            at += longest;
            return NONE;
        }

        private static String wordOf(int verb) {
            switch (verb) {
                case SERVE:
                    return "serve ";
                case DAY:
                    return "day";
                case STAY:
                    return "stay ";
                case LIFT:
                    return "lift ";
                case MORE:
                    return "more ";
                case FILE:
                    return "file ";
                default:
                    return "holiday ";
            }
        }

        private int countCommon(Text text, String word) {
            int common = 0;
            while (common < word.length() && text.signAt(at + common) == word.charAt(common)) {
                common++;
            }
            return common;
        }

        private boolean readValues(Text text, int verb) {
            switch (verb) {
                case SERVE:
                    return readServe(text);
                case DAY:
                    return readDays(text);
                case MORE:
                    return readFirst(text, 4) && readSign(text, ' ') && readSecond(text, 4);
                default:
                    return readFirst(text, 4);
            }
        }

        private boolean readServe(Text text) {
            return readFirst(text, 1) && readSign(text, ' ') && readSecond(text, 1)
                    && readSign(text, ' ') && readWay(text);
        }

        private boolean readDays(Text text) {
            firsts[count] = 1;
            return text.signAt(at) != ' ' || (readSign(text, ' ') && readFirst(text, 4));
        }

        private boolean readFirst(Text text, int maxDigits) {
            firsts[count] = readNumber(text, maxDigits);
            return firsts[count] != NONE;
        }

        private boolean readSecond(Text text, int maxDigits) {
            seconds[count] = readNumber(text, maxDigits);
            return seconds[count] != NONE;
        }

        private int readNumber(Text text, int maxDigits) {
            int number = NONE;
            for (int digits = 0; digits < maxDigits; digits++) {
                char sign = text.signAt(at);
                if (sign < '0' || sign > '9') {
                    return number;
                }
                number = (digits == 0 ? 0 : number * 10) + (sign - '0');
                at++;
            }
            return number;
        }

        private boolean readWay(Text text) {
            char way = text.signAt(at);
            if (Rules.placeOfWay(way) == NONE) {
                return false;
            }
            ways[count] = way;
            at++;
            return true;
        }

        private boolean readSign(Text text, char wanted) {
            if (text.signAt(at) != wanted) {
                return false;
            }
            at++;
            return true;
        }
    }
}
