/** Promises 40 to 46: the stays. */
public final class StaysTest {
    public static void main(String[] args) {
        promise40StayParty();
        promise41StayAll();
        promise42Lift();
        promise43StaysInForce();
        promise44IsStopped();
        promises45And46StoppedDays();
        promises45And46LongStays();
        promises45And46WrongArguments();
        promises45And46SetsAndParties();
        Check.end();
    }

    private static void promise40StayParty() {
        TollClock clock = Check.withParties("a", "b");
        Check.is("first", 0, clock.stayParty(1, 255));
        Check.is("second", 1, clock.stayParty(1, 1));
        int[] wrongParties = {2, -1};
        for (int party : wrongParties) {
            Check.fails("party " + party, IndexOutOfBoundsException.class, () -> clock.stayParty(party, 0));
        }
        int[] wrongSets = {0, 256, -1, Integer.MIN_VALUE};
        for (int rules : wrongSets) {
            Check.fails("set " + rules, IllegalArgumentException.class, () -> clock.stayParty(0, rules));
        }
        for (int stay = 2; stay < 12; stay++) {
            Check.is("stay", stay, clock.stayParty(0, stay));
        }
        Check.fails("stay 12", IllegalStateException.class, () -> clock.stayParty(0, 1));
        Check.fails("stay 12, set 0", IllegalArgumentException.class, () -> clock.stayParty(0, 0));
        Check.fails("stay 12, party 2", IndexOutOfBoundsException.class, () -> clock.stayParty(2, 1));
        clock.lift(0);
        Check.fails("stay 12, one lifted", IllegalStateException.class, () -> clock.stayParty(0, 1));
    }

    private static void promise41StayAll() {
        TollClock clock = new TollClock();
        Check.is("first, without parties", 0, clock.stayAll(1));
        Check.party(clock, "late");
        clock.serve(0, 0, 'p');
        clock.serve(0, 1, 'p');
        Check.is("a party added later", true, clock.isStopped(0, 1));
        Check.is("a rule outside the set", false, clock.isStopped(1, 1));
        int[] wrongSets = {0, 256, -5};
        for (int rules : wrongSets) {
            Check.fails("set " + rules, IllegalArgumentException.class, () -> clock.stayAll(rules));
        }
        for (int stay = 1; stay < 12; stay++) {
            Check.is("stay", stay, clock.stayAll(255));
        }
        Check.fails("stay 12", IllegalStateException.class, () -> clock.stayAll(1));
        Check.fails("stay 12, set 0", IllegalArgumentException.class, () -> clock.stayAll(0));
    }

    private static void promise42Lift() {
        TollClock clock = Check.withParties("a");
        clock.stayAll(255);
        clock.advance(4);
        clock.stayParty(0, 1);
        clock.advance(3);
        clock.stayAll(1);
        Check.is("7 days", 7, clock.lift(0));
        Check.is("3 days", 3, clock.lift(1));
        Check.is("no days", 0, clock.lift(2));
        for (int stay = 0; stay < 3; stay++) {
            int number = stay;
            Check.fails("twice", IllegalStateException.class, () -> clock.lift(number));
        }
        Check.fails("3", IndexOutOfBoundsException.class, () -> clock.lift(3));
        Check.fails("-1", IndexOutOfBoundsException.class, () -> clock.lift(-1));
        clock.undo();
        clock.advance(1);
        Check.is("after undo", 1, clock.lift(2));
    }

    private static void promise43StaysInForce() {
        TollClock clock = Check.withParties("a");
        Check.is("none", 0, clock.staysInForce());
        clock.stayAll(1);
        clock.stayParty(0, 1);
        clock.stayAll(2);
        Check.is("three", 3, clock.staysInForce());
        clock.lift(1);
        Check.is("two", 2, clock.staysInForce());
        clock.advance(1);
        clock.lift(0);
        clock.lift(2);
        Check.is("none again", 0, clock.staysInForce());
    }

    private static void promise44IsStopped() {
        TollClock clock = Check.withParties("a", "b");
        clock.advance(2);
        clock.serve(0, 3, 'p');
        clock.serve(1, 3, 'p');
        clock.serve(0, 4, 'p');
        clock.stayParty(0, 8);
        clock.advance(3);
        checkStopped(clock, 0, 2, false);
        checkStopped(clock, 0, 3, true);
        checkStopped(clock, 0, 4999, true);
        checkStopped(clock, 1, 3, false);
        checkStopped(clock, 2, 3, false);
        clock.lift(0);
        checkStopped(clock, 0, 5, true);
        checkStopped(clock, 0, 6, false);
        checkStopped(clock, 0, 0, false);
        clock.stayAll(255);
        clock.lift(1);
        checkStopped(clock, 2, 6, false);
        checkStopped(clock, 2, 5, false);
        int[] wrongDays = {-1, 5000};
        for (int day : wrongDays) {
            Check.fails("day " + day, IllegalArgumentException.class, () -> clock.isStopped(0, day));
            Check.fails("deadline 3", IndexOutOfBoundsException.class, () -> clock.isStopped(3, day));
        }
        Check.fails("deadline -1", IndexOutOfBoundsException.class, () -> clock.isStopped(-1, 0));
    }

    private static void promises45And46StoppedDays() {
        TollClock clock = Check.withParties("a");
        clock.serve(0, 0, 'p');
        checkStoppedDays(clock, 0, 0, 4999, 0);
        clock.advance(10);
        clock.stayAll(1);                    // 11 to 20
        clock.advance(5);
        clock.stayParty(0, 3);               // 16 to 18
        clock.advance(3);
        clock.lift(1);
        clock.advance(2);
        clock.lift(0);
        clock.stayAll(255);                  // 21 to 30
        clock.advance(10);
        clock.lift(2);
        clock.advance(10);
        clock.stayAll(1);                    // 41 onwards
        checkStoppedDays(clock, 0, 0, 10, 0);
        checkStoppedDays(clock, 0, 0, 11, 1);
        checkStoppedDays(clock, 0, 11, 11, 1);
        checkStoppedDays(clock, 0, 12, 17, 6);
        checkStoppedDays(clock, 0, 0, 40, 20);
        checkStoppedDays(clock, 0, 20, 21, 2);
        checkStoppedDays(clock, 0, 30, 40, 1);
        checkStoppedDays(clock, 0, 31, 40, 0);
        checkStoppedDays(clock, 0, 0, 4999, 20 + 4959);
        checkStoppedDays(clock, 0, 4999, 4999, 1);
        checkStoppedDays(clock, 0, 40, 41, 1);
        checkStoppedDays(clock, 0, 64, 191, 128);
    }

    /** Stays that begin and end near the multiples of 64, where marking passes to the next bits. */
    private static void promises45And46LongStays() {
        for (int first = 62; first <= 66; first++) {
            for (int last = 125; last <= 130; last++) {
                TollClock clock = Check.withParties("a");
                clock.serve(0, 0, 'p');
                clock.advance(first - 1);
                clock.stayAll(1);
                clock.advance(last - first + 1);
                clock.lift(0);
                checkStoppedDays(clock, 0, 0, 4999, last - first + 1);
                checkStoppedDays(clock, 0, first, last, last - first + 1);
                checkStoppedDays(clock, 0, 0, first, 1);
                checkStoppedDays(clock, 0, last, 300, 1);
            }
        }
    }

    private static void promises45And46WrongArguments() {
        TollClock clock = Check.withParties("a");
        clock.serve(0, 0, 'p');
        int[][] wrongRanges = {{-1, 3}, {0, 5000}, {3, 2}, {5000, 5000}, {-3, -2}};
        for (int[] range : wrongRanges) {
            Check.fails("wrong range", IllegalArgumentException.class,
                    () -> clock.stoppedDays(0, range[0], range[1]));
            Check.fails("wrong range marked", IllegalArgumentException.class,
                    () -> clock.stoppedDaysByMarking(0, range[0], range[1]));
            Check.fails("wrong deadline", IndexOutOfBoundsException.class,
                    () -> clock.stoppedDays(1, range[0], range[1]));
            Check.fails("wrong deadline marked", IndexOutOfBoundsException.class,
                    () -> clock.stoppedDaysByMarking(-1, range[0], range[1]));
        }
    }

    private static void promises45And46SetsAndParties() {
        TollClock clock = Check.withParties("a", "b");
        for (int rule = 0; rule < 8; rule++) {
            clock.serve(rule % 2, rule, 'p');
        }
        clock.stayParty(0, 128 + 4);
        clock.stayParty(1, 32 + 1);
        clock.stayAll(8);
        for (int rule = 0; rule < 8; rule++) {
            boolean stopped = rule == 2 || rule == 5 || rule == 3;
            checkStoppedDays(clock, rule, 1, 100, stopped ? 100 : 0);
        }
    }

    private static void checkStopped(TollClock clock, int deadline, int day, boolean want) {
        Check.is("deadline " + deadline + " stopped on " + day, want, clock.isStopped(deadline, day));
    }

    private static void checkStoppedDays(TollClock clock, int deadline, int first, int last, int want) {
        String what = "stopped for " + deadline + " from " + first + " to " + last;
        Check.is(what, want, clock.stoppedDays(deadline, first, last));
        Check.is("marked " + what, want, clock.stoppedDaysByMarking(deadline, first, last));
    }
}
