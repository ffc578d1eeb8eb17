import java.util.ArrayList;
import java.util.HashMap;
import java.util.HashSet;
import java.util.List;
import java.util.Map;
import java.util.NoSuchElementException;
import java.util.Set;
import java.util.TreeSet;
import java.util.function.IntPredicate;
import java.util.regex.Matcher;
import java.util.regex.Pattern;

/** The document once more, written down day by day and without any thrift, to compare with. */
final class PlainModel {
    record Deadline(int party, int rule, int served, int length, boolean court, int service,
            List<Integer> consents, List<Integer> orders, List<Integer> granted, char status) {
        Deadline ended(char how) {
            return new Deadline(party, rule, served, length, court, service, consents, orders, granted, how);
        }

        Deadline extended(int days, boolean byConsent) {
            return new Deadline(party, rule, served, length, court, service, byConsent ? with(consents, days) : consents,
                    byConsent ? orders : with(orders, days), with(granted, days), status);
        }
    }

    record Stay(int party, int rules, int ordered, int lifted) {
    }

    record Occurrence(int day, int rule, int length, boolean court) {
    }

    record Claim(int party, int occurrence, int filed, int amends) {
    }

    /** What undo brings back; a copy shares only what never changes. */
    static final class State {
        List<List<Integer>> names = new ArrayList<>();
        int today = 0;
        TreeSet<Integer> holidays = new TreeSet<>();
        int[] lengths = {10, 20, 30, 40, 50, 60, 70, 80};
        boolean[] court = {false, true, false, true, false, true, false, true};
        Map<Character, Integer> ways = new HashMap<>(Map.of('p', 0, 'e', 1, 'm', 3, 'a', 14));
        List<Deadline> deadlines = new ArrayList<>();
        List<Stay> stays = new ArrayList<>();
        List<Occurrence> occurrences = new ArrayList<>();
        Set<Set<Integer>> links = new HashSet<>();
        List<Claim> claims = new ArrayList<>();

        State copy() {
            State other = new State();
            other.names = new ArrayList<>(names);
            other.today = today;
            other.holidays = new TreeSet<>(holidays);
            other.lengths = lengths.clone();
            other.court = court.clone();
            other.ways = new HashMap<>(ways);
            other.deadlines = new ArrayList<>(deadlines);
            other.stays = new ArrayList<>(stays);
            other.occurrences = new ArrayList<>(occurrences);
            other.links = new HashSet<>(links);
            other.claims = new ArrayList<>(claims);
            return other;
        }
    }

    private static final Set<String> CHANGES = Set.of("addParty", "advance", "addHoliday", "removeHoliday", "setRule",
            "setServiceDays", "serve", "extendByConsent", "extendByOrder", "file", "strike", "stayParty", "stayAll",
            "lift", "addOccurrence", "linkOccurrences", "fileClaim", "amendClaim", "run");
    private static final String NUMBER = "[0-9]{1,4}";
    private static final String COMMAND = "(?:serve [0-9] [0-9] [pema]|day(?: " + NUMBER + ")?|stay " + NUMBER
            + "|lift " + NUMBER + "|more " + NUMBER + " " + NUMBER + "|file " + NUMBER + "|holiday " + NUMBER + ")";
    private static final Pattern PROGRAM = Pattern.compile(COMMAND + "(?:;" + COMMAND + ")*");

    State now = new State();
    private final List<State> earlier = new ArrayList<>();
    private String buffer = "";
    private String line = "";
    private int errorPosition = -1;
    private int failedCommand = -1;

    private static List<Integer> with(List<Integer> list, int value) {
        List<Integer> longer = new ArrayList<>(list);
        longer.add(value);
        return longer;
    }

    Object answer(String call, Object[] a) {
        if (!CHANGES.contains(call)) {
            return ask(call, a);
        }
        State before = now.copy();
        Object result;
        try {
            result = change(call, a);
        } catch (RuntimeException thrown) {
            now = before;
            throw thrown;
        }
        earlier.add(before);
        if (earlier.size() > 8) {
            earlier.remove(0);
        }
        return result;
    }

    private static int i(Object[] a, int index) {
        return (Integer) a[index];
    }

    private Object change(String call, Object[] a) {
        switch (call) {
            case "addParty": return addParty();
            case "advance": return advance(i(a, 0));
            case "addHoliday": return addHoliday(i(a, 0));
            case "removeHoliday": return removeHoliday(i(a, 0));
            case "setRule": return setRule(i(a, 0), i(a, 1), (Boolean) a[2]);
            case "setServiceDays": return setServiceDays((Character) a[0], i(a, 1));
            case "serve": return serve(i(a, 0), i(a, 1), (Character) a[2]);
            case "extendByConsent": return extendByConsent(i(a, 0), i(a, 1));
            case "extendByOrder": return extendByOrder(i(a, 0), i(a, 1));
            case "file": return file(i(a, 0));
            case "strike": return strike(i(a, 0));
            case "stayParty": return stayParty(i(a, 0), i(a, 1));
            case "stayAll": return stayAll(i(a, 0));
            case "lift": return lift(i(a, 0));
            case "addOccurrence": return addOccurrence(i(a, 0), i(a, 1));
            case "linkOccurrences": return linkOccurrences(i(a, 0), i(a, 1));
            case "fileClaim": return fileClaim(i(a, 0), i(a, 1));
            case "amendClaim": return amendClaim(i(a, 0), i(a, 1));
            default: return run();
        }
    }

    private Object ask(String call, Object[] a) {
        switch (call) {
            case "type": return type((Character) a[0]);
            case "findParty": return findParty();
            case "parties": return now.names.size();
            case "nameLength": return name(i(a, 0)).size();
            case "nameCodePoint": return at(name(i(a, 0)), i(a, 1));
            case "writeNameReversed": return writeNameReversed(i(a, 0));
            case "today": return now.today;
            case "weekday": return day(i(a, 0)) % 7;
            case "isCourtDay": return isCourt(day(i(a, 0)));
            case "courtDays": case "courtDaysByMarking": return count(i(a, 0), i(a, 1), this::isCourt);
            case "ruleLength": return now.lengths[rule(i(a, 0))];
            case "countsCourtDays": return now.court[rule(i(a, 0))];
            case "serviceDays": return way((Character) a[0]);
            case "lastDayBefore": case "lastDayBeforeByMarking": return lastDayBefore(i(a, 0), i(a, 1));
            case "deadlines": return now.deadlines.size();
            case "due": case "dueByMarking": return some(due(deadline(i(a, 0))));
            case "daysLeft": case "daysLeftByMarking": return left(deadline(i(a, 0)));
            case "extensionDays": return sum(deadline(i(a, 0)).granted());
            case "status": return deadline(i(a, 0)).status();
            case "openAt": return at2(openInOrder(), i(a, 0));
            case "overdue": return overdue();
            case "busiestDay": return busiestDay();
            case "meanDaysLeft": return meanDaysLeft();
            case "staysInForce": return (int) now.stays.stream().filter(stay -> stay.lifted() < 0).count();
            case "isStopped": return isStopped(i(a, 0), i(a, 1));
            case "stoppedDays": case "stoppedDaysByMarking": return stoppedDays(i(a, 0), i(a, 1), i(a, 2));
            case "sameConduct": case "sameConductBySearch": return same(occurrence(i(a, 0)), occurrence(i(a, 1)));
            case "barDay": return some(bar(occurrence(i(a, 0))));
            case "effectiveDay": return effective(claim(i(a, 0)));
            case "isTimely": return timely(claim(i(a, 0)));
            case "timelyClaims": return timelyClaims(i(a, 0));
            case "writeDeadline": return writeDeadline(i(a, 0));
            case "charAt": return charAt(i(a, 0));
            case "isConsistent": return true;
            case "errorPosition": return recorded(errorPosition);
            case "failedCommand": return recorded(failedCommand);
            default: return undo();
        }
    }

    private static void index(boolean good) {
        if (!good) {
            throw new IndexOutOfBoundsException();
        }
    }

    private static void argument(boolean good) {
        if (!good) {
            throw new IllegalArgumentException();
        }
    }

    private static void state(boolean good) {
        if (!good) {
            throw new IllegalStateException();
        }
    }

    private static int some(int day) {
        if (day < 0) {
            throw new NoSuchElementException();
        }
        return day;
    }

    private static int recorded(int number) {
        return some(number);
    }

    private static int at(List<Integer> list, int place) {
        index(place >= 0 && place < list.size());
        return list.get(place);
    }

    private static int at2(List<Integer> list, int place) {
        if (place < 0 || place >= list.size()) {
            throw new NoSuchElementException();
        }
        return list.get(place);
    }

    private static int sum(List<Integer> list) {
        return list.stream().mapToInt(Integer::intValue).sum();
    }

    private static int day(int day) {
        argument(day >= 0 && day < 5000);
        return day;
    }

    private static int rule(int rule) {
        index(rule >= 0 && rule < 8);
        return rule;
    }

    private int way(char way) {
        argument(now.ways.containsKey(way));
        return now.ways.get(way);
    }

    private List<Integer> name(int party) {
        index(party >= 0 && party < now.names.size());
        return now.names.get(party);
    }

    private Deadline deadline(int number) {
        index(number >= 0 && number < now.deadlines.size());
        return now.deadlines.get(number);
    }

    private int occurrence(int number) {
        index(number >= 0 && number < now.occurrences.size());
        return number;
    }

    private int claim(int number) {
        index(number >= 0 && number < now.claims.size());
        return number;
    }

    private int type(char sign) {
        state(buffer.length() < 60);
        buffer += sign;
        return buffer.length();
    }

    private String takeBuffer() {
        String text = buffer;
        buffer = "";
        return text;
    }

    /** String.codePoints leaves unpaired halves as they are: so a name is a text without them. */
    private static List<Integer> codePoints(String text) {
        List<Integer> points = new ArrayList<>();
        text.codePoints().forEach(points::add);
        return points;
    }

    private static boolean isName(String text) {
        List<Integer> points = codePoints(text);
        return !points.isEmpty() && points.size() <= 8
                && points.stream().noneMatch(point -> point >= 0xD800 && point <= 0xDFFF);
    }

    private int addParty() {
        String text = takeBuffer();
        argument(isName(text));
        state(now.names.size() < 8 && !now.names.contains(codePoints(text)));
        now.names.add(codePoints(text));
        return now.names.size() - 1;
    }

    private int findParty() {
        String text = takeBuffer();
        return some(isName(text) ? now.names.indexOf(codePoints(text)) : -1);
    }

    private int writeNameReversed(int party) {
        StringBuilder text = new StringBuilder();
        for (int point : name(party)) {
            text.insert(0, Character.toChars(point));
        }
        line = text.toString();
        return line.length();
    }

    private int advance(int days) {
        argument(days >= 1 && days <= 400);
        state(now.today + days <= 1500);
        now.today += days;
        return now.today;
    }

    private boolean isCourt(int day) {
        return day % 7 != 5 && day % 7 != 6 && !now.holidays.contains(day);
    }

    private static int count(int first, int last, IntPredicate counts) {
        argument(first >= 0 && first < 5000 && last >= 0 && last < 5000 && last >= first);
        int number = 0;
        for (int day = first; day <= last; day++) {
            number += counts.test(day) ? 1 : 0;
        }
        return number;
    }

    private int addHoliday(int day) {
        day(day);
        state(now.holidays.size() < 40);
        state(now.holidays.add(day));
        return now.holidays.size();
    }

    private int removeHoliday(int day) {
        day(day);
        if (!now.holidays.remove(day)) {
            throw new NoSuchElementException();
        }
        return now.holidays.size();
    }

    private int setRule(int rule, int length, boolean court) {
        rule(rule);
        argument(length >= 1 && length <= 200);
        int before = now.lengths[rule];
        now.lengths[rule] = length;
        now.court[rule] = court;
        return before;
    }

    private int setServiceDays(char way, int days) {
        way(way);
        argument(days >= 0 && days <= 30);
        return now.ways.put(way, days);
    }

    private int lastDayBefore(int rule, int day) {
        rule(rule);
        day(day);
        int left = now.lengths[rule];
        int at = day;
        while (left > 0) {
            at--;
            some(at);
            if (!now.court[rule] || isCourt(at)) {
                left--;
            }
        }
        while (!isCourt(at)) {
            at--;
            some(at);
        }
        return at;
    }

    private int serve(int party, int rule, char way) {
        name(party);
        rule(rule);
        int service = way(way);
        state(now.deadlines.size() < 30);
        now.deadlines.add(new Deadline(party, rule, now.today, now.lengths[rule], now.court[rule], service, List.of(),
                List.of(), List.of(), 'o'));
        return now.deadlines.size() - 1;
    }

    private boolean stops(Stay stay, int party, int rule, int day) {
        return (stay.party() < 0 || stay.party() == party) && (stay.rules() & (1 << rule)) != 0
                && day > stay.ordered() && (stay.lifted() < 0 || day <= stay.lifted());
    }

    private boolean stopped(int party, int rule, int day) {
        return now.stays.stream().anyMatch(stay -> stops(stay, party, rule, day));
    }

    /** The end of the last part, or -1; the days that count are added to a list. */
    private int end(int from, List<Integer> parts, boolean court, IntPredicate stopped, List<Integer> counted) {
        int day = from;
        boolean courtPart = court;
        for (int length : parts) {
            int number = 0;
            while (number < length) {
                day++;
                if (day > 4999) {
                    return -1;
                }
                if (!stopped.test(day) && (!courtPart || isCourt(day))) {
                    number++;
                    counted.add(day);
                }
            }
            while (!isCourt(day) || stopped.test(day)) {
                day++;
                if (day > 4999) {
                    return -1;
                }
            }
            courtPart = false;
        }
        return day;
    }

    private int count(Deadline deadline, List<Integer> counted) {
        List<Integer> parts = new ArrayList<>(List.of(deadline.length()));
        if (deadline.service() > 0) {
            parts.add(deadline.service());
        }
        parts.addAll(deadline.granted());
        return end(deadline.served(), parts, deadline.court(),
                day -> stopped(deadline.party(), deadline.rule(), day), counted);
    }

    private int due(Deadline deadline) {
        return count(deadline, new ArrayList<>());
    }

    private boolean pastDue(Deadline deadline) {
        int due = due(deadline);
        return due >= 0 && due < now.today;
    }

    private int left(Deadline deadline) {
        List<Integer> counted = new ArrayList<>();
        count(deadline, counted);
        counted.removeIf(day -> day > now.today);
        return deadline.length() + deadline.service() + sum(deadline.granted()) - counted.size();
    }

    private int extendByConsent(int number, int days) {
        Deadline deadline = deadline(number);
        argument(days >= 1 && days <= 28);
        state(deadline.status() == 'o' && !pastDue(deadline) && deadline.consents().size() < 2);
        if (sum(deadline.consents()) + days > 28) {
            throw new UnsupportedOperationException();
        }
        now.deadlines.set(number, deadline.extended(days, true));
        return sum(now.deadlines.get(number).granted());
    }

    private int extendByOrder(int number, int days) {
        Deadline deadline = deadline(number);
        argument(days >= 1 && days <= 100);
        state(deadline.status() == 'o' && deadline.orders().size() < 3);
        now.deadlines.set(number, deadline.extended(days, false));
        return sum(now.deadlines.get(number).granted());
    }

    private boolean file(int number) {
        Deadline deadline = deadline(number);
        state(deadline.status() == 'o');
        boolean late = pastDue(deadline);
        now.deadlines.set(number, deadline.ended(late ? 'l' : 't'));
        return !late;
    }

    private int strike(int number) {
        Deadline deadline = deadline(number);
        state(deadline.status() == 'o');
        now.deadlines.set(number, deadline.ended('s'));
        return open().size();
    }

    private List<Integer> open() {
        List<Integer> open = new ArrayList<>();
        for (int number = 0; number < now.deadlines.size(); number++) {
            if (now.deadlines.get(number).status() == 'o') {
                open.add(number);
            }
        }
        return open;
    }

    private List<Integer> openInOrder() {
        List<Integer> open = open();
        Map<Integer, Integer> dues = new HashMap<>();
        for (int number : open) {
            int due = due(now.deadlines.get(number));
            dues.put(number, due < 0 ? Integer.MAX_VALUE : due);
        }
        open.sort((one, other) -> Integer.compare(dues.get(one), dues.get(other)));
        return open;
    }

    private int overdue() {
        return (int) open().stream().filter(number -> pastDue(now.deadlines.get(number))).count();
    }

    private int busiestDay() {
        int[] numbers = new int[5000];
        int busiest = -1;
        for (int number : open()) {
            int due = due(now.deadlines.get(number));
            if (due >= 0) {
                numbers[due]++;
            }
        }
        for (int day = 4999; day >= 0; day--) {
            if (numbers[day] > 0 && (busiest < 0 || numbers[day] >= numbers[busiest])) {
                busiest = day;
            }
        }
        return some(busiest);
    }

    private double meanDaysLeft() {
        List<Integer> open = open();
        if (open.isEmpty()) {
            throw new ArithmeticException();
        }
        int sum = 0;
        for (int number : open) {
            sum += left(now.deadlines.get(number));
        }
        return (double) sum / (double) open.size();
    }

    private int stayParty(int party, int rules) {
        name(party);
        return stay(party, rules);
    }

    private int stayAll(int rules) {
        return stay(-1, rules);
    }

    private int stay(int party, int rules) {
        argument(rules >= 1 && rules <= 255);
        state(now.stays.size() < 12);
        now.stays.add(new Stay(party, rules, now.today, -1));
        return now.stays.size() - 1;
    }

    private int lift(int number) {
        index(number >= 0 && number < now.stays.size());
        Stay stay = now.stays.get(number);
        state(stay.lifted() < 0);
        now.stays.set(number, new Stay(stay.party(), stay.rules(), stay.ordered(), now.today));
        return now.today - stay.ordered();
    }

    private boolean isStopped(int number, int day) {
        Deadline deadline = deadline(number);
        return stopped(deadline.party(), deadline.rule(), day(day));
    }

    private int stoppedDays(int number, int first, int last) {
        Deadline deadline = deadline(number);
        return count(first, last, day -> stopped(deadline.party(), deadline.rule(), day));
    }

    private int addOccurrence(int day, int rule) {
        argument(day >= 0 && day <= now.today);
        rule(rule);
        state(now.occurrences.size() < 8);
        now.occurrences.add(new Occurrence(day, rule, now.lengths[rule], now.court[rule]));
        return now.occurrences.size() - 1;
    }

    private int linkOccurrences(int one, int other) {
        occurrence(one);
        occurrence(other);
        argument(one != other);
        state(now.links.add(Set.of(one, other)));
        Set<Set<Integer>> groups = new HashSet<>();
        for (int number = 0; number < now.occurrences.size(); number++) {
            groups.add(reached(number));
        }
        return groups.size();
    }

    private Set<Integer> reached(int from) {
        Set<Integer> reached = new HashSet<>(Set.of(from));
        boolean more = true;
        while (more) {
            more = false;
            for (Set<Integer> link : now.links) {
                if (link.stream().anyMatch(reached::contains)) {
                    more |= reached.addAll(link);
                }
            }
        }
        return reached;
    }

    private boolean same(int one, int other) {
        return reached(one).contains(other);
    }

    private int bar(int number) {
        Occurrence occurrence = now.occurrences.get(number);
        return end(occurrence.day(), List.of(occurrence.length()), occurrence.court(),
                day -> now.stays.stream().anyMatch(stay -> stay.party() < 0 && stops(stay, -1, occurrence.rule(), day)),
                new ArrayList<>());
    }

    private int fileClaim(int party, int occurrence) {
        name(party);
        return claim(party, occurrence(occurrence), -1);
    }

    private int amendClaim(int claim, int occurrence) {
        claim(claim);
        return claim(now.claims.get(claim).party(), occurrence(occurrence), claim);
    }

    private int claim(int party, int occurrence, int amends) {
        state(now.claims.size() < 20);
        now.claims.add(new Claim(party, occurrence, now.today, amends));
        return now.claims.size() - 1;
    }

    private int effective(int number) {
        Claim claim = now.claims.get(number);
        if (claim.amends() >= 0 && same(claim.occurrence(), now.claims.get(claim.amends()).occurrence())) {
            return effective(claim.amends());
        }
        return claim.filed();
    }

    private boolean timely(int number) {
        int bar = bar(now.claims.get(number).occurrence());
        return bar < 0 || effective(number) <= bar;
    }

    private int timelyClaims(int party) {
        name(party);
        int timely = 0;
        for (int number = 0; number < now.claims.size(); number++) {
            timely += now.claims.get(number).party() == party && timely(number) ? 1 : 0;
        }
        return timely;
    }

    private int writeDeadline(int number) {
        Deadline deadline = deadline(number);
        int due = due(deadline);
        int granted = sum(deadline.granted());
        line = number + ":" + deadline.status() + deadline.party() + ">" + (due < 0 ? "-" : due)
                + (granted > 0 ? "+" + granted : "");
        return line.length();
    }

    private char charAt(int place) {
        index(place >= 0 && place < line.length());
        return line.charAt(place);
    }

    private int run() {
        String text = takeBuffer();
        Matcher whole = PROGRAM.matcher(text);
        if (!whole.matches()) {
            errorPosition = firstHopeless(text);
            throw new IllegalArgumentException();
        }
        String[] commands = text.split(";");
        for (int number = 0; number < commands.length; number++) {
            try {
                execute(commands[number].split(" "));
            } catch (RuntimeException thrown) {
                failedCommand = number;
                throw new UnsupportedOperationException();
            }
        }
        return commands.length;
    }

    private static int firstHopeless(String text) {
        for (int length = 1; length <= text.length(); length++) {
            Matcher start = PROGRAM.matcher(text.substring(0, length));
            if (!start.matches() && !start.hitEnd()) {
                return length - 1;
            }
        }
        return text.length();
    }

    private void execute(String[] words) {
        int first = words.length > 1 ? Integer.parseInt(words[1]) : 1;
        switch (words[0]) {
            case "serve": serve(first, Integer.parseInt(words[2]), words[3].charAt(0)); break;
            case "day": advance(first); break;
            case "stay": stayAll(first); break;
            case "lift": lift(first); break;
            case "more": extendByConsent(first, Integer.parseInt(words[2])); break;
            case "file": file(first); break;
            default: addHoliday(first); break;
        }
    }

    private int undo() {
        state(!earlier.isEmpty());
        now = earlier.remove(earlier.size() - 1);
        return earlier.size();
    }
}
