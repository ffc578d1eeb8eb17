import java.util.NoSuchElementException;

/** Promises 47 to 56: the occurrences and the claims. */
public final class ClaimsTest {
    public static void main(String[] args) {
        promise47AddOccurrence();
        promise48LinkOccurrences();
        promises49And50SameConduct();
        promise51BarDay();
        promise51Stays();
        promise52FileClaim();
        promise53AmendClaim();
        promise54EffectiveDay();
        promise55IsTimely();
        promise56TimelyClaims();
        Check.end();
    }

    private static void promise47AddOccurrence() {
        TollClock clock = new TollClock();
        Check.is("day 0", 0, clock.addOccurrence(0, 0));
        Check.fails("tomorrow", IllegalArgumentException.class, () -> clock.addOccurrence(1, 0));
        Check.fails("day -1", IllegalArgumentException.class, () -> clock.addOccurrence(-1, 8));
        Check.fails("rule 8", IndexOutOfBoundsException.class, () -> clock.addOccurrence(0, 8));
        Check.fails("rule -1", IndexOutOfBoundsException.class, () -> clock.addOccurrence(0, -1));
        clock.advance(10);
        for (int number = 1; number < 8; number++) {
            Check.is("occurrence", number, clock.addOccurrence(10 - number, number));
        }
        Check.fails("ninth", IllegalStateException.class, () -> clock.addOccurrence(0, 0));
        Check.fails("ninth, rule 8", IndexOutOfBoundsException.class, () -> clock.addOccurrence(0, 8));
        Check.fails("ninth, day 11, rule 8", IllegalArgumentException.class,
                () -> clock.addOccurrence(11, 8));
        clock.undo();
        Check.is("today", 7, clock.addOccurrence(10, 7));
    }

    private static TollClock withOccurrences(int count) {
        TollClock clock = Check.withParties("a", "b");
        for (int number = 0; number < count; number++) {
            clock.addOccurrence(0, number);
        }
        return clock;
    }

    private static void promise48LinkOccurrences() {
        TollClock clock = withOccurrences(5);
        Check.is("0-1", 4, clock.linkOccurrences(0, 1));
        Check.is("3-2", 3, clock.linkOccurrences(3, 2));
        Check.fails("1-0", IllegalStateException.class, () -> clock.linkOccurrences(1, 0));
        Check.fails("0-1 again", IllegalStateException.class, () -> clock.linkOccurrences(0, 1));
        Check.is("1-2", 2, clock.linkOccurrences(1, 2));
        Check.is("0-3 within a group", 2, clock.linkOccurrences(0, 3));
        Check.fails("2-2", IllegalArgumentException.class, () -> clock.linkOccurrences(2, 2));
        Check.fails("5-5", IndexOutOfBoundsException.class, () -> clock.linkOccurrences(5, 5));
        Check.fails("0-5", IndexOutOfBoundsException.class, () -> clock.linkOccurrences(0, 5));
        Check.fails("-1-0", IndexOutOfBoundsException.class, () -> clock.linkOccurrences(-1, 0));
        Check.is("4-0", 1, clock.linkOccurrences(4, 0));
        clock.addOccurrence(0, 0);
        Check.is("4-1", 2, clock.linkOccurrences(4, 1));
    }

    private static void promises49And50SameConduct() {
        TollClock clock = withOccurrences(8);
        checkSame(clock, 3, 3, true);
        checkSame(clock, 0, 7, false);
        clock.linkOccurrences(7, 6);
        clock.linkOccurrences(5, 6);
        clock.linkOccurrences(0, 1);
        checkSame(clock, 7, 5, true);
        checkSame(clock, 5, 7, true);
        checkSame(clock, 0, 5, false);
        clock.linkOccurrences(1, 5);
        checkSame(clock, 0, 7, true);
        checkSame(clock, 7, 0, true);
        checkSame(clock, 2, 7, false);
        checkSame(clock, 4, 4, true);
        clock.undo();
        checkSame(clock, 0, 7, false);
        checkSame(clock, 0, 1, true);
        clock.linkOccurrences(0, 2);
        clock.linkOccurrences(2, 3);
        clock.linkOccurrences(3, 4);
        clock.linkOccurrences(4, 5);
        for (int one = 0; one < 8; one++) {
            for (int other = 0; other < 8; other++) {
                checkSame(clock, one, other, true);
            }
        }
        int[][] wrong = {{8, 0}, {0, 8}, {-1, 0}, {0, -1}};
        for (int[] pair : wrong) {
            Check.fails("wrong", IndexOutOfBoundsException.class, () -> clock.sameConduct(pair[0], pair[1]));
            Check.fails("wrong by search", IndexOutOfBoundsException.class,
                    () -> clock.sameConductBySearch(pair[0], pair[1]));
        }
    }

    private static void checkSame(TollClock clock, int one, int other, boolean want) {
        Check.is("same " + one + ", " + other, want, clock.sameConduct(one, other));
        Check.is("same by search " + one + ", " + other, want, clock.sameConductBySearch(one, other));
    }

    private static void promise51BarDay() {
        TollClock clock = new TollClock();
        clock.setRule(0, 4, false);
        clock.setRule(1, 5, true);
        clock.addOccurrence(0, 0);
        clock.addOccurrence(0, 1);
        clock.setRule(0, 5, false);
        clock.addOccurrence(0, 0);
        Check.is("Friday", 4, clock.barDay(0));
        Check.is("court days", 7, clock.barDay(1));
        Check.is("moved", 7, clock.barDay(2));
        clock.setRule(0, 200, true);
        Check.is("the rule as it was", 4, clock.barDay(0));
        clock.addHoliday(4);
        Check.is("holidays as they are", 7, clock.barDay(0));
        clock.advance(3);
        clock.addOccurrence(2, 1);
        Check.is("from its own day", 10, clock.barDay(3));
        Check.fails("4", IndexOutOfBoundsException.class, () -> clock.barDay(4));
        Check.fails("-1", IndexOutOfBoundsException.class, () -> clock.barDay(-1));
    }

    private static void promise51Stays() {
        TollClock clock = Check.withParties("a");
        clock.setRule(0, 10, false);
        clock.setRule(1, 10, false);
        clock.addOccurrence(0, 0);
        clock.addOccurrence(0, 1);
        clock.stayParty(0, 255);
        Check.is("a stay of one party", 10, clock.barDay(0));
        clock.stayAll(2);
        Check.is("another rule", 10, clock.barDay(0));
        Check.fails("its rule", NoSuchElementException.class, () -> clock.barDay(1));
        clock.advance(2);
        clock.lift(1);
        Check.is("two days", 14, clock.barDay(1));
    }

    private static void promise52FileClaim() {
        TollClock clock = withOccurrences(2);
        Check.is("first", 0, clock.fileClaim(0, 1));
        Check.is("second", 1, clock.fileClaim(1, 0));
        int[][] wrong = {{2, 0}, {-1, 0}, {0, 2}, {0, -1}};
        for (int[] pair : wrong) {
            Check.fails("wrong", IndexOutOfBoundsException.class, () -> clock.fileClaim(pair[0], pair[1]));
        }
        for (int claim = 2; claim < 20; claim++) {
            Check.is("claim", claim, clock.fileClaim(claim % 2, 0));
        }
        Check.fails("claim 20", IllegalStateException.class, () -> clock.fileClaim(0, 0));
        Check.fails("claim 20, party 2", IndexOutOfBoundsException.class, () -> clock.fileClaim(2, 0));
        Check.fails("amendment 20", IllegalStateException.class, () -> clock.amendClaim(0, 0));
    }

    private static void promise53AmendClaim() {
        TollClock clock = withOccurrences(2);
        clock.fileClaim(1, 0);
        clock.advance(5);
        Check.is("amendment", 1, clock.amendClaim(0, 1));
        Check.is("amendment of an amendment", 2, clock.amendClaim(1, 0));
        Check.is("all of one party", 3, clock.timelyClaims(1));
        Check.is("none of the other", 0, clock.timelyClaims(0));
        Check.is("the amended claim", 0, clock.effectiveDay(0));
        int[][] wrong = {{3, 0}, {-1, 0}, {0, 2}, {0, -1}};
        for (int[] pair : wrong) {
            Check.fails("wrong", IndexOutOfBoundsException.class, () -> clock.amendClaim(pair[0], pair[1]));
        }
        for (int claim = 3; claim < 20; claim++) {
            Check.is("claim", claim, clock.amendClaim(claim - 1, 0));
        }
        Check.fails("amendment 20", IllegalStateException.class, () -> clock.amendClaim(0, 0));
        Check.fails("amendment 20 of none", IndexOutOfBoundsException.class, () -> clock.amendClaim(20, 0));
        Check.is("the end of a long chain", 5, clock.effectiveDay(19));
        clock.linkOccurrences(0, 1);
        Check.is("the whole chain relates back", 0, clock.effectiveDay(19));
    }

    private static void promise54EffectiveDay() {
        TollClock clock = withOccurrences(3);
        clock.advance(1);
        clock.fileClaim(0, 0);
        clock.advance(1);
        clock.amendClaim(0, 0);
        clock.advance(1);
        clock.amendClaim(1, 1);
        clock.advance(1);
        clock.amendClaim(2, 1);
        checkEffective(clock, 1, 1, 3, 3);
        clock.linkOccurrences(0, 2);
        checkEffective(clock, 1, 1, 3, 3);
        clock.linkOccurrences(2, 1);
        checkEffective(clock, 1, 1, 1, 1);
        clock.undo();
        checkEffective(clock, 1, 1, 3, 3);
        // The way back over another conduct ends there, though its first claim is of the same one.
        clock.advance(1);
        clock.amendClaim(3, 0);
        Check.is("back to the first conduct", 5, clock.effectiveDay(4));
        Check.fails("5", IndexOutOfBoundsException.class, () -> clock.effectiveDay(5));
        Check.fails("-1", IndexOutOfBoundsException.class, () -> clock.effectiveDay(-1));
    }

    private static void checkEffective(TollClock clock, int... days) {
        for (int claim = 0; claim < days.length; claim++) {
            Check.is("effective day of " + claim, days[claim], clock.effectiveDay(claim));
        }
    }

    private static void promise55IsTimely() {
        TollClock clock = Check.withParties("a");
        clock.setRule(0, 4, false);
        clock.addOccurrence(0, 0);
        clock.addOccurrence(0, 0);
        clock.advance(4);
        clock.fileClaim(0, 0);
        clock.advance(1);
        clock.fileClaim(0, 0);
        clock.amendClaim(0, 1);
        Check.is("on the bar day", true, clock.isTimely(0));
        Check.is("after the bar day", false, clock.isTimely(1));
        Check.is("another conduct", false, clock.isTimely(2));
        clock.linkOccurrences(0, 1);
        Check.is("relates back", true, clock.isTimely(2));
        clock.stayAll(1);
        clock.addHoliday(4);
        Check.is("no bar day", true, clock.isTimely(1));
        Check.fails("3", IndexOutOfBoundsException.class, () -> clock.isTimely(3));
        Check.fails("-1", IndexOutOfBoundsException.class, () -> clock.isTimely(-1));
    }

    private static void promise56TimelyClaims() {
        TollClock clock = Check.withParties("a", "b", "c");
        clock.setRule(0, 4, false);
        clock.addOccurrence(0, 0);
        clock.addOccurrence(0, 7);
        clock.fileClaim(0, 0);
        clock.fileClaim(1, 0);
        clock.advance(5);
        clock.fileClaim(0, 0);
        clock.fileClaim(0, 1);
        clock.amendClaim(0, 0);
        clock.amendClaim(1, 1);
        Check.is("a", 3, clock.timelyClaims(0));
        Check.is("b", 2, clock.timelyClaims(1));
        Check.is("c", 0, clock.timelyClaims(2));
        Check.fails("3", IndexOutOfBoundsException.class, () -> clock.timelyClaims(3));
        Check.fails("-1", IndexOutOfBoundsException.class, () -> clock.timelyClaims(-1));
    }
}
