/** What the tests share: comparing answers, and the calls that most of them begin with. */
final class Check {
    private static int wrong = 0;
    private static int checks = 0;

    interface Call {
        Object answer();
    }

    private Check() {
    }

    /** Compares an answer: numbers by their value, a boolean and a character as themselves. */
    static void is(String what, Object want, Object got) {
        checks++;
        if (!want.equals(got)) {
            wrong++;
            System.out.println(what + " answered " + got + ", due is " + want);
        }
    }

    /** The exception must be of just this class: a subclass would be one that the machine threw. */
    static void fails(String what, Class<? extends RuntimeException> want, Call call) {
        Object got;
        try {
            got = call.answer();
        } catch (RuntimeException thrown) {
            got = thrown.getClass();
        }
        is(what, want, got);
    }

    static void type(TollClock clock, String text) {
        for (int index = 0; index < text.length(); index++) {
            clock.type(text.charAt(index));
        }
    }

    static int party(TollClock clock, String name) {
        type(clock, name);
        return clock.addParty();
    }

    static int run(TollClock clock, String program) {
        type(clock, program);
        return clock.run();
    }

    /** The present day can move by at most 400 days at once. */
    static void goTo(TollClock clock, int day) {
        while (clock.today() < day) {
            clock.advance(Math.min(400, day - clock.today()));
        }
    }

    static String line(TollClock clock, int length) {
        StringBuilder text = new StringBuilder();
        for (int index = 0; index < length; index++) {
            text.append(clock.charAt(index));
        }
        fails("charAt behind the end", IndexOutOfBoundsException.class, () -> clock.charAt(length));
        return text.toString();
    }

    static TollClock withParties(String... names) {
        TollClock clock = new TollClock();
        for (String name : names) {
            party(clock, name);
        }
        return clock;
    }

    static int wrong() {
        return wrong;
    }

    static void end() {
        System.out.println(checks + " checks, " + wrong + " wrong");
        if (wrong != 0) {
            System.exit(1);
        }
    }
}
