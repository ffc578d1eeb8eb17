import java.util.NoSuchElementException;

/** The boundary cases of promises 47 to 56: the occurrences and the claims. */
public final class ClaimsEdgesTest {
    private static final String NO_OCCURRENCE = "one of the occurrences does not exist";
    private static final String FULL = "there are 20 claims";
    private static final String NO_CLAIM = "there is no such claim";

    public static void main(String[] args) {
        Edges.test(47, "the day of the occurrence, 0 to the present day", ClaimsEdgesTest::firstAndPresentDay);
        Edges.test(47, "the day is out of range", ClaimsEdgesTest::tomorrowIsRefused);
        Edges.test(47, "there is no such rule", ClaimsEdgesTest::noRule);
        Edges.test(47, "there are 8 occurrences", ClaimsEdgesTest::ninthOccurrenceIsRefused);
        Edges.test(48, "the number of groups of occurrences afterwards", ClaimsEdgesTest::groupsDownToOne);
        Edges.test(48, "two occurrences belong to the same group if they are of the same conduct",
                ClaimsEdgesTest::linkWithinAGroup);
        Edges.test(48, NO_OCCURRENCE, () -> noOccurrenceOfTwo(TollClock::linkOccurrences));
        Edges.test(48, "both are the same", ClaimsEdgesTest::linkToItselfIsRefused);
        Edges.test(48, "there is a link between them, in either order", ClaimsEdgesTest::secondLinkIsRefused);
        edgesOfConduct(49, (clock, one, other) -> clock.sameConduct(one, other));
        edgesOfConduct(50, (clock, one, other) -> clock.sameConductBySearch(one, other));
        Edges.test(51, "there is no such occurrence", ClaimsEdgesTest::barDayOfNoOccurrence);
        Edges.test(51, "there is no bar day", ClaimsEdgesTest::noBarDay);
        Edges.test(52, "there is no such party", ClaimsEdgesTest::claimOfNoParty);
        Edges.test(52, "no such occurrence", () -> claimOfNoOccurrence((clock, number) -> clock.fileClaim(0, number)));
        Edges.test(52, FULL, () -> claimTwentyOneIsRefused((clock, number) -> clock.fileClaim(0, number)));
        Edges.test(53, "another claim of the same party", ClaimsEdgesTest::amendmentIsOfTheSameParty);
        Edges.test(53, "The claim that is amended does not change.", ClaimsEdgesTest::amendedClaimDoesNotChange);
        Edges.test(53, "which may be an amendment itself", ClaimsEdgesTest::amendmentOfAmendments);
        Edges.test(53, NO_CLAIM, () -> noClaim((clock, claim) -> clock.amendClaim(claim, 0)));
        Edges.test(53, "no such occurrence", () -> claimOfNoOccurrence((clock, number) -> clock.amendClaim(0, number)));
        Edges.test(53, FULL, () -> claimTwentyOneIsRefused((clock, number) -> clock.amendClaim(0, number)));
        Edges.test(54, NO_CLAIM, () -> noClaim(TollClock::effectiveDay));
        Edges.test(55, NO_CLAIM, () -> noClaim((clock, claim) -> clock.isTimely(claim)));
        Edges.test(56, "amendments included", ClaimsEdgesTest::timelyFromNoneToAll);
        Edges.test(56, "there is no such party", ClaimsEdgesTest::timelyClaimsOfNoParty);
        Edges.allTested(47, 56);
        Check.end();
    }

    interface OfNumber {
        Object answer(TollClock clock, int number);
    }

    interface OfTwo {
        Object answer(TollClock clock, int one, int other);
    }

    private static void edgesOfConduct(int promise, OfTwo call) {
        String whole = promise == 49 ? "Returns whether two occurrences are of the same conduct" : "Returns the same";
        Edges.test(promise, whole, () -> longestChain(call));
        Edges.test(promise, "true if they are of the same conduct", () -> noLinkAndOneLink(call));
        Edges.test(promise, "the other occurrence, which may be the same", () -> sameAsItself(call));
        Edges.test(promise, NO_OCCURRENCE, () -> noOccurrenceOfTwo(call));
    }

    private static TollClock withOccurrences(int count) {
        TollClock clock = Check.withParties("a", "b");
        for (int number = 0; number < count; number++) {
            clock.addOccurrence(0, number % 8);
        }
        return clock;
    }

    private static void firstAndPresentDay() {
        TollClock clock = new TollClock();
        Check.is("day 0 on day 0", 0, clock.addOccurrence(0, 0));
        Check.goTo(clock, 1500);
        Check.is("day 0 on the last present day", 1, clock.addOccurrence(0, 0));
        Check.is("the last present day", 2, clock.addOccurrence(1500, 0));
        Check.is("the day before", 3, clock.addOccurrence(1499, 0));
        Check.is("its bar day, moved from Saturday", 1512, clock.barDay(2));
    }

    private static void tomorrowIsRefused() {
        int[] todays = {0, 1, 300, 1500};
        for (int today : todays) {
            TollClock clock = new TollClock();
            Check.goTo(clock, today);
            Edges.outOfRange("day on " + today, 0, today, day -> clock.addOccurrence(day, 0));
            Check.fails("the last day of all", IllegalArgumentException.class, () -> clock.addOccurrence(4999, 0));
            Check.is("today", 0, clock.addOccurrence(today, 0));
        }
    }

    private static void noRule() {
        TollClock clock = new TollClock();
        Edges.noIndex("rule", 8, rule -> clock.addOccurrence(0, rule));
        Check.is("the last rule", 0, clock.addOccurrence(0, 7));
    }

    private static void ninthOccurrenceIsRefused() {
        TollClock clock = withOccurrences(7);
        Check.is("the last one", 7, clock.addOccurrence(0, 0));
        Check.fails("one more", IllegalStateException.class, () -> clock.addOccurrence(0, 0));
        clock.undo();
        Check.fails("the last one is undone", IndexOutOfBoundsException.class, () -> clock.barDay(7));
        Check.is("the last one again", 7, clock.addOccurrence(0, 7));
    }

    private static void groupsDownToOne() {
        TollClock two = withOccurrences(2);
        Check.is("both", 1, two.linkOccurrences(0, 1));
        TollClock clock = withOccurrences(8);
        for (int other = 7; other > 0; other--) {
            Check.is("groups after linking " + other, other, clock.linkOccurrences(other, other - 1));
        }
    }

    private static void linkWithinAGroup() {
        TollClock clock = withOccurrences(4);
        clock.linkOccurrences(0, 1);
        Check.is("three in a chain", 2, clock.linkOccurrences(1, 2));
        Check.is("its ends", 2, clock.linkOccurrences(2, 0));
        Check.is("all", 1, clock.linkOccurrences(3, 1));
        Check.is("all again", 1, clock.linkOccurrences(3, 0));
    }

    private static void noOccurrenceOfTwo(OfTwo call) {
        TollClock none = new TollClock();
        Edges.noIndex("both of none", 0, number -> call.answer(none, number, number));
        for (int count = 1; count <= 8; count += 7) {
            TollClock clock = withOccurrences(count);
            Edges.noIndex("the one", count, number -> call.answer(clock, number, 0));
            Edges.noIndex("the other", count, number -> call.answer(clock, 0, number));
            Edges.noIndex("both", count, number -> call.answer(clock, number, number));
        }
        TollClock clock = withOccurrences(8);
        call.answer(clock, 7, 0);
        TollClock undone = withOccurrences(2);
        undone.undo();
        Check.fails("an undone one", IndexOutOfBoundsException.class, () -> call.answer(undone, 0, 1));
    }

    private static void linkToItselfIsRefused() {
        TollClock clock = withOccurrences(8);
        clock.linkOccurrences(0, 1);
        for (int number = 0; number < 8; number++) {
            int same = number;
            Check.fails("link to itself", IllegalArgumentException.class, () -> clock.linkOccurrences(same, same));
        }
        Check.is("groups", 6, clock.linkOccurrences(6, 7));
    }

    private static void secondLinkIsRefused() {
        TollClock clock = withOccurrences(8);
        int[][] links = {{0, 1}, {2, 1}, {7, 0}, {6, 7}};
        for (int[] link : links) {
            clock.linkOccurrences(link[0], link[1]);
        }
        for (int[] link : links) {
            Check.fails("in the same order", IllegalStateException.class, () -> clock.linkOccurrences(link[0], link[1]));
            Check.fails("in the other order", IllegalStateException.class, () -> clock.linkOccurrences(link[1], link[0]));
        }
        Check.is("a group without a link between", 4, clock.linkOccurrences(2, 0));
        clock.undo();
        Check.is("after undo", 4, clock.linkOccurrences(0, 2));
    }

    /** Eight in a chain, whose order is not that of their numbers. */
    private static void longestChain(OfTwo call) {
        TollClock clock = withOccurrences(8);
        int[] chain = {3, 7, 0, 5, 2, 6, 1, 4};
        for (int place = 1; place < 8; place++) {
            Check.is("before the link", false, call.answer(clock, chain[0], chain[place]));
            clock.linkOccurrences(chain[place - 1], chain[place]);
            Check.is("after the link", true, call.answer(clock, chain[0], chain[place]));
            Check.is("back", true, call.answer(clock, chain[place], chain[0]));
        }
        for (int one = 0; one < 8; one++) {
            for (int other = 0; other < 8; other++) {
                Check.is(one + " and " + other, true, call.answer(clock, one, other));
            }
        }
    }

    private static void noLinkAndOneLink(OfTwo call) {
        TollClock clock = withOccurrences(3);
        Check.is("no link", false, call.answer(clock, 0, 2));
        clock.linkOccurrences(2, 0);
        Check.is("one link", true, call.answer(clock, 0, 2));
        Check.is("beside it", false, call.answer(clock, 0, 1));
        Check.is("beside it, back", false, call.answer(clock, 1, 2));
        clock.undo();
        Check.is("link undone", false, call.answer(clock, 0, 2));
    }

    private static void sameAsItself(OfTwo call) {
        TollClock clock = withOccurrences(8);
        for (int number = 0; number < 8; number++) {
            Check.is("itself", true, call.answer(clock, number, number));
        }
    }

    private static void barDayOfNoOccurrence() {
        TollClock clock = new TollClock();
        Edges.noIndex("occurrence of none", 0, clock::barDay);
        for (int count = 1; count <= 8; count++) {
            int occurrences = count;
            clock.addOccurrence(0, 0);
            Check.fails("occurrence " + count, IndexOutOfBoundsException.class, () -> clock.barDay(occurrences));
        }
        Edges.noIndex("occurrence of eight", 8, clock::barDay);
        Check.is("the last one", 10, clock.barDay(7));
    }

    private static void noBarDay() {
        TollClock clock = new TollClock();
        clock.setRule(0, 4, false);
        clock.addOccurrence(0, 0);
        clock.advance(3);
        clock.stayAll(1);
        Check.fails("stayed a day before", NoSuchElementException.class, () -> clock.barDay(0));
        clock.undo();
        clock.advance(1);
        clock.stayAll(1);
        Check.is("stayed on the bar day", 4, clock.barDay(0));
        clock.addHoliday(4);
        Check.fails("the end cannot move", NoSuchElementException.class, () -> clock.barDay(0));
        clock.advance(3);
        clock.lift(0);
        Check.is("lifted", 8, clock.barDay(0));
    }

    private static void claimOfNoParty() {
        TollClock clock = new TollClock();
        clock.addOccurrence(0, 0);
        Edges.noIndex("party of none", 0, party -> clock.fileClaim(party, 0));
        for (int count = 1; count <= 8; count++) {
            int parties = count;
            Check.party(clock, "p" + count);
            Check.fails("party " + count, IndexOutOfBoundsException.class, () -> clock.fileClaim(parties, 0));
        }
        Edges.noIndex("party of eight", 8, party -> clock.fileClaim(party, 0));
        Check.is("the last party", 0, clock.fileClaim(7, 0));
    }

    private static void claimOfNoOccurrence(OfNumber call) {
        for (int count = 1; count <= 8; count++) {
            TollClock clock = withOccurrences(count);
            clock.fileClaim(0, 0);
            Edges.noIndex("occurrence of " + count, count, number -> call.answer(clock, number));
            Check.is("the last occurrence", 1, call.answer(clock, count - 1));
        }
        TollClock none = Check.withParties("a");
        Check.fails("the first of none", IndexOutOfBoundsException.class, () -> none.fileClaim(0, 0));
    }

    private static void claimTwentyOneIsRefused(OfNumber call) {
        TollClock clock = withOccurrences(1);
        for (int claim = 0; claim < 19; claim++) {
            Check.is("claim", claim, claim % 2 == 0 ? clock.fileClaim(1, 0) : clock.amendClaim(claim - 1, 0));
        }
        Check.is("the last one", 19, call.answer(clock, 0));
        Check.fails("one more", IllegalStateException.class, () -> call.answer(clock, 0));
        Check.fails("no claim by refusal", IndexOutOfBoundsException.class, () -> clock.isTimely(20));
        clock.undo();
        Check.is("the last one again", 19, call.answer(clock, 0));
    }

    private static void amendmentIsOfTheSameParty() {
        TollClock clock = withOccurrences(2);
        clock.fileClaim(1, 0);
        clock.amendClaim(0, 1);
        clock.amendClaim(1, 1);
        Check.is("claims of the other party", 0, clock.timelyClaims(0));
        Check.is("claims of the same party", 3, clock.timelyClaims(1));
    }

    private static void amendedClaimDoesNotChange() {
        TollClock clock = Check.withParties("a", "b");
        clock.setRule(0, 4, false);
        clock.addOccurrence(0, 0);
        clock.addOccurrence(0, 7);
        clock.advance(5);
        clock.fileClaim(1, 0);
        Check.is("not timely before", false, clock.isTimely(0));
        clock.advance(2);
        clock.amendClaim(0, 1);
        Check.is("effective day", 5, clock.effectiveDay(0));
        Check.is("not timely", false, clock.isTimely(0));
        Check.is("only the amendment is timely", 1, clock.timelyClaims(1));
        clock.linkOccurrences(0, 1);
        Check.is("effective day after a link", 5, clock.effectiveDay(0));
        Check.is("effective day of the amendment after a link", 5, clock.effectiveDay(1));
    }

    /** The longest chain: nineteen amendments of one claim. */
    private static void amendmentOfAmendments() {
        TollClock clock = withOccurrences(2);
        clock.advance(1);
        clock.fileClaim(0, 0);
        for (int claim = 1; claim < 20; claim++) {
            clock.advance(1);
            clock.amendClaim(claim - 1, claim < 10 ? 0 : 1);
        }
        Check.is("before the other conduct", 1, clock.effectiveDay(9));
        Check.is("the first of the other conduct", 11, clock.effectiveDay(10));
        Check.is("the last of the other conduct", 11, clock.effectiveDay(19));
        clock.linkOccurrences(0, 1);
        Check.is("the last of the same conduct", 1, clock.effectiveDay(19));
    }

    private static void noClaim(OfNumber call) {
        TollClock clock = withOccurrences(1);
        Edges.noIndex("claim of none", 0, claim -> call.answer(clock, claim));
        for (int count = 1; count <= 20; count++) {
            int claims = count;
            clock.fileClaim(0, 0);
            Check.fails("claim " + count, IndexOutOfBoundsException.class, () -> call.answer(clock, claims));
        }
        Edges.noIndex("claim of twenty", 20, claim -> call.answer(clock, claim));
        clock.undo();
        Check.fails("an undone claim", IndexOutOfBoundsException.class, () -> call.answer(clock, 19));
        call.answer(clock, 18);
    }

    private static void timelyFromNoneToAll() {
        TollClock clock = Check.withParties("a", "b");
        clock.setRule(0, 4, false);
        clock.addOccurrence(0, 0);
        Check.is("no claim", 0, clock.timelyClaims(0));
        clock.fileClaim(0, 0);
        clock.advance(5);
        clock.fileClaim(0, 0);
        Check.is("one of two", 1, clock.timelyClaims(0));
        for (int count = 2; count < 20; count++) {
            clock.amendClaim(count % 2, 0);
            Check.is("every other amendment", count / 2 + 1, clock.timelyClaims(0));
        }
        clock.addHoliday(4);
        clock.advance(2);
        Check.is("all, by a later bar day", 20, clock.timelyClaims(0));
        Check.is("the other party", 0, clock.timelyClaims(1));
    }

    private static void timelyClaimsOfNoParty() {
        TollClock clock = new TollClock();
        Edges.noIndex("party of none", 0, clock::timelyClaims);
        for (int count = 1; count <= 8; count++) {
            Check.party(clock, "p" + count);
            Check.is("a new party", 0, clock.timelyClaims(count - 1));
        }
        Edges.noIndex("party of eight", 8, clock::timelyClaims);
    }
}
