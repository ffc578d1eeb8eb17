import java.util.NoSuchElementException;

/** Promises 57 to 63: the output line, the invariants, the programs and undo. */
public final class ProgramsTest {
    public static void main(String[] args) {
        promise57WriteDeadline();
        promise58CharAt();
        promise59IsConsistent();
        promise59FullDocket();
        promise60Run();
        promise60AllOrNothing();
        promise60FullBuffer();
        promise61ErrorPosition();
        promise62FailedCommand();
        promise63Undo();
        promise63EachChange();
        promise63WhatItLeaves();
        Check.end();
    }

    private static void promise57WriteDeadline() {
        TollClock clock = Check.withParties("a", "b", "c");
        for (int number = 0; number < 11; number++) {
            clock.serve(number % 3, 0, 'p');
        }
        checkLine(clock, 0, "0:o0>10");
        clock.strike(1);
        checkLine(clock, 1, "1:s1>10");
        clock.file(2);
        checkLine(clock, 2, "2:t2>10");
        clock.extendByConsent(4, 9);
        checkLine(clock, 4, "4:o1>21+9");
        clock.extendByOrder(10, 100);
        checkLine(clock, 10, "10:o1>112+100");
        clock.advance(11);
        clock.file(3);
        checkLine(clock, 3, "3:l0>10");
        clock.addHoliday(10);
        clock.stayParty(0, 255);
        checkLine(clock, 3, "3:l0>11");
        clock.addHoliday(11);
        checkLine(clock, 3, "3:l0>-");
        clock.extendByOrder(6, 7);
        checkLine(clock, 6, "6:o0>-+7");
        Check.fails("11", IndexOutOfBoundsException.class, () -> clock.writeDeadline(11));
        Check.fails("-1", IndexOutOfBoundsException.class, () -> clock.writeDeadline(-1));
        Check.is("line after refusals", "6:o0>-+7", Check.line(clock, 8));
        Check.goTo(clock, 1500);
        clock.serve(1, 7, 'a');
        for (int count = 0; count < 3; count++) {
            clock.extendByOrder(11, 100);
        }
        clock.extendByConsent(11, 28);
        checkLine(clock, 11, "11:o1>" + clock.dueByMarking(11) + "+328");
    }

    private static void checkLine(TollClock clock, int deadline, String want) {
        int length = clock.writeDeadline(deadline);
        Check.is("line of deadline " + deadline, want, Check.line(clock, length));
    }

    private static void promise58CharAt() {
        TollClock clock = Check.withParties("ab");
        Check.fails("empty line", IndexOutOfBoundsException.class, () -> clock.charAt(0));
        clock.writeNameReversed(0);
        Check.is("0", 'b', clock.charAt(0));
        Check.is("1", 'a', clock.charAt(1));
        int[] wrong = {2, -1, 60, Integer.MAX_VALUE, Integer.MIN_VALUE};
        for (int index : wrong) {
            Check.fails("index " + index, IndexOutOfBoundsException.class, () -> clock.charAt(index));
        }
        clock.serve(0, 0, 'p');
        clock.writeDeadline(0);
        Check.is("replaced", ':', clock.charAt(1));
        clock.writeNameReversed(0);
        Check.fails("replaced by a shorter one", IndexOutOfBoundsException.class, () -> clock.charAt(2));
    }

    private static void promise59IsConsistent() {
        TollClock clock = Check.withParties("a", "b");
        Check.is("empty", true, clock.isConsistent());
        for (int number = 0; number < 30; number++) {
            clock.serve(number % 2, number % 8, "pema".charAt(number % 4));
            clock.advance(1 + number % 5);
            if (number % 3 == 0) {
                clock.addHoliday(number * 4);
            }
            if (number % 4 == 0 && number < 24) {
                clock.stayParty(number / 4 % 2, 1 + number * 9);
                clock.stayAll(255 - number * 10);
            }
            if (number % 4 == 2 && number < 24) {
                clock.lift(number / 2 - 1);
            }
            if (number < 8) {
                clock.addOccurrence(number, number);
            }
            if (number > 0 && number < 5) {
                clock.linkOccurrences(number, (number - 1) / 2);
            }
            Check.is("consistent " + number, true, clock.isConsistent());
        }
    }

    /** As many of everything as there can be. */
    private static void promise59FullDocket() {
        TollClock clock = Check.withParties("a", "b", "c", "d", "e", "f", "g", "h");
        for (int number = 0; number < 40; number++) {
            clock.addHoliday(number * 9);
        }
        for (int number = 0; number < 12; number++) {
            clock.advance(3);
            clock.stayParty(number % 8, 1 << number % 8);
            clock.advance(1);
            clock.lift(number);
        }
        for (int number = 0; number < 30; number++) {
            clock.serve(number % 8, number % 8, 'a');
            clock.extendByConsent(number, 1);
            clock.extendByConsent(number, 2);
            for (int count = 1; count <= 3; count++) {
                clock.extendByOrder(number, 10 * count);
            }
        }
        for (int number = 0; number < 8; number++) {
            clock.addOccurrence(48 - number, number);
        }
        for (int claim = 0; claim < 20; claim++) {
            clock.fileClaim(claim % 8, claim % 8);
        }
        Check.is("full docket", true, clock.isConsistent());
        Check.is("parties", 8, clock.parties());
        Check.is("first open", 0, clock.openAt(0));
        Check.is("last open", 23, clock.openAt(29));
        Check.fails("none behind it", NoSuchElementException.class, () -> clock.openAt(30));
        Check.is("overdue", 0, clock.overdue());
        // Moved ends bring the deadlines of the rules 1 and 2 together.
        Check.is("due day of rule 2", clock.due(1), clock.due(2));
        Check.is("busiest day", clock.due(2), clock.busiestDay());
        // The rules 0 to 5 four times, 6 and 7 three times; each with 14 days and 63 granted ones.
        Check.is("mean of the days left", (4 * 210 + 3 * 150 + 30 * 77) / 30.0, clock.meanDaysLeft());
        Check.is("claims of party 3", 3, clock.timelyClaims(3));
        Check.is("extension", 63, clock.extensionDays(29));
    }

    private static void promise60Run() {
        TollClock clock = Check.withParties("a", "b");
        Check.is("serve", 1, Check.run(clock, "serve 1 2 m"));
        Check.is("days left", 33, clock.daysLeft(0));
        Check.is("day", 1, Check.run(clock, "day"));
        Check.is("today", 1, clock.today());
        Check.is("day 400", 1, Check.run(clock, "day 400"));
        Check.is("today", 401, clock.today());
        Check.is("leading zeros", 1, Check.run(clock, "day 0007"));
        Check.is("today", 408, clock.today());
        Check.is("stay", 2, Check.run(clock, "stay 4;day 2"));
        Check.is("stays", 1, clock.staysInForce());
        Check.is("lift", 2, Check.run(clock, "lift 0;day"));
        Check.is("stays", 0, clock.staysInForce());
        Check.is("holiday", 1, Check.run(clock, "holiday 4999"));
        Check.is("court day", false, clock.isCourtDay(4999));
        Check.is("more", 4, Check.run(clock, "serve 0 0 p;serve 0 1 e;serve 0 1 a;more 2 28"));
        Check.is("extension", 28, clock.extensionDays(2));
        Check.is("file", 1, Check.run(clock, "file 1"));
        Check.is("status", 't', clock.status(1));
        Check.is("days left by e", 21, clock.daysLeft(2) - 28);
        Check.is("days left by a", 34, clock.daysLeft(3));
        Check.is("buffer", 1, clock.type('d'));
        Check.fails("d", IllegalArgumentException.class, clock::run);
        Check.is("buffer", 1, clock.type('d'));
    }

    private static void promise60AllOrNothing() {
        TollClock clock = Check.withParties("a");
        clock.serve(0, 0, 'p');
        String[] failing = {"day;day 0", "day;day 401", "serve 0 0 p;serve 1 0 p", "day;serve 0 8 p",
            "stay 1;stay 0", "stay 1;stay 256", "day;lift 0", "stay 1;lift 0;lift 0", "day;more 0 29",
            "more 0 20;more 0 9", "day;more 1 5", "day;file 1", "file 0;file 0", "holiday 1;holiday 1",
            "day;holiday 5000", "day 400;day 400;day 400;day 301"};
        for (String program : failing) {
            Check.fails(program, UnsupportedOperationException.class, () -> Check.run(clock, program));
            Check.is("today after " + program, 0, clock.today());
            Check.is("deadlines after " + program, 1, clock.deadlines());
            Check.is("status after " + program, 'o', clock.status(0));
            Check.is("extensions after " + program, 0, clock.extensionDays(0));
            Check.is("stays after " + program, 0, clock.staysInForce());
            Check.is("court day after " + program, true, clock.isCourtDay(1));
            Check.is("buffer after " + program, 1, clock.type('x'));
            Check.fails("x", IllegalArgumentException.class, clock::run);
        }
        Check.is("nothing of it can be undone", 1, clock.undo());
        Check.is("undone", 0, clock.deadlines());
    }

    private static void promise60FullBuffer() {
        TollClock clock = new TollClock();
        String day = "day;day;day;day;day;day;day;day;day;day;day;day;day;day;day";
        Check.is("fifteen", 15, Check.run(clock, day));
        Check.is("today", 15, clock.today());
        Check.fails("fifteen and more", IllegalArgumentException.class, () -> Check.run(clock, day + ";"));
        Check.is("position", 60, clock.errorPosition());
        Check.fails("fifteen and a blank", IllegalArgumentException.class, () -> Check.run(clock, day + " "));
        Check.is("position", 60, clock.errorPosition());
        Check.fails("fifteen and s", IllegalArgumentException.class, () -> Check.run(clock, day + "s"));
        Check.is("position", 59, clock.errorPosition());
        Check.is("today", 15, clock.today());
    }

    private static void promise61ErrorPosition() {
        TollClock clock = Check.withParties("a");
        Check.fails("no content", NoSuchElementException.class, clock::errorPosition);
        Check.run(clock, "day");
        Check.fails("a program", NoSuchElementException.class, clock::errorPosition);
        checkError(clock, "", 0);
        promise61ErrorPositions();
        checkError(clock, "day /", 4);
        Check.run(clock, "day");
        Check.is("after a program", 4, clock.errorPosition());
        clock.undo();
        Check.is("after undo", 4, clock.errorPosition());
        Check.fails("failing", UnsupportedOperationException.class, () -> Check.run(clock, "day 0"));
        Check.is("after a failing program", 4, clock.errorPosition());
    }

    private static void promise61ErrorPositions() {
        String[] prefixes = {"s", "se", "serve", "serve ", "serve 0", "serve 0 ", "serve 0 9", "serve 0 9 ", "st",
            "stay", "stay ", "d", "da", "day ", "day;", "day 1;", "l", "lift ", "m", "more", "more 1", "more 1 ",
            "more 1234 ", "f", "file", "file ", "h", "holida", "holiday", "holiday ", "day 1234;", "day;s"};
        for (String prefix : prefixes) {
            checkError(new TollClock(), prefix, prefix.length());
        }
        Object[][] wrong = {{"x", 0}, {" day", 0}, {"Day", 0}, {";", 0}, {"sa", 1}, {"sx", 1}, {"stx", 2},
            {"sex", 2}, {"serve0", 5}, {"serve  0", 6}, {"serve 00 p", 7}, {"serve 0 10 p", 9}, {"serve 0 1p", 9},
            {"serve 0 1 x", 10}, {"serve 0 1 pp", 11}, {"dax", 2}, {"days", 3}, {"day1", 3}, {"day  1", 4},
            {"day -1", 4}, {"day 12345", 8}, {"day 1 ", 5}, {"day;;", 4}, {"day; day", 4}, {"day 1x", 5},
            {"stay x", 5}, {"stay 12345", 9}, {"lift x", 5}, {"lifts", 4}, {"more x", 5}, {"more 1x", 6},
            {"more 12345 1", 9}, {"more 1 x", 7}, {"more 1 12345", 11}, {"more 1  2", 7}, {"file;", 4},
            {"file 1 2", 6}, {"holidays", 7}, {"holiday\u00a01", 7}, {"day \u0661", 4}, {"day 1/", 5}, {"day 1:", 5},
            {"d\u0000", 1}, {"day,day", 3}, {"day;\ud83d", 4}, {"day ;", 4}, {"day /", 4}, {"day :", 4}};
        for (Object[] pair : wrong) {
            checkError(new TollClock(), (String) pair[0], (Integer) pair[1]);
        }
    }

    private static void checkError(TollClock clock, String text, int want) {
        Check.fails("run of " + text, IllegalArgumentException.class, () -> Check.run(clock, text));
        Check.is("error position of " + text, want, clock.errorPosition());
    }

    private static void promise62FailedCommand() {
        TollClock clock = Check.withParties("a");
        Check.fails("none", NoSuchElementException.class, clock::failedCommand);
        Check.run(clock, "day");
        Check.fails("none failed", NoSuchElementException.class, clock::failedCommand);
        Check.fails("no program", IllegalArgumentException.class, () -> Check.run(clock, "dy"));
        Check.fails("none failed yet", NoSuchElementException.class, clock::failedCommand);
        checkFailed(clock, "day 0", 0);
        checkFailed(clock, "day;day;lift 0;day 0", 2);
        checkFailed(clock, "day;day;day;day;day;day;day;day;day;day;day;day;day;day;lift", -1);
        checkFailed(clock, "day;day;day;day;day;day;day;day;day;day;day;day;day;file 0", 13);
        Check.run(clock, "day");
        Check.is("after success", 13, clock.failedCommand());
        clock.undo();
        Check.is("after undo", 13, clock.failedCommand());
        checkFailed(clock, "serve 0 0 p;serve 0 8 p", 1);
    }

    private static void checkFailed(TollClock clock, String program, int want) {
        if (want < 0) {
            Check.fails(program, IllegalArgumentException.class, () -> Check.run(clock, program));
            return;
        }
        Check.fails(program, UnsupportedOperationException.class, () -> Check.run(clock, program));
        Check.is("failed command of " + program, want, clock.failedCommand());
    }

    private static void promise63Undo() {
        TollClock clock = new TollClock();
        Check.fails("nothing", IllegalStateException.class, clock::undo);
        clock.advance(1);
        Check.is("one", 0, clock.undo());
        Check.fails("none left", IllegalStateException.class, clock::undo);
        for (int count = 1; count <= 12; count++) {
            clock.advance(1);
        }
        for (int left = 7; left >= 4; left--) {
            Check.is("undo", left, clock.undo());
        }
        Check.is("today", 8, clock.today());
        clock.addHoliday(1);
        clock.addHoliday(2);
        for (int left = 5; left >= 0; left--) {
            Check.is("undo", left, clock.undo());
        }
        Check.is("today", 4, clock.today());
        Check.is("court day", true, clock.isCourtDay(1));
        Check.fails("none left", IllegalStateException.class, clock::undo);
        Check.is("today", 4, clock.today());
        for (int count = 1; count <= 8; count++) {
            clock.advance(1);
        }
        Check.fails("refused", IllegalArgumentException.class, () -> clock.advance(0));
        Check.fails("refused", UnsupportedOperationException.class, () -> Check.run(clock, "day;day 0"));
        for (int left = 7; left >= 0; left--) {
            Check.is("undo after refusals", left, clock.undo());
        }
        Check.is("today", 4, clock.today());
    }

    private static void promise63EachChange() {
        int count = changes(new TollClock()).length;
        for (int number = 0; number < count; number++) {
            TollClock clock = withSomeOfAll();
            String before = picture(clock);
            changes(clock)[number].answer();
            Check.is("change " + number + " is seen", false, before.equals(picture(clock)));
            Check.is("undo of change " + number, 7, clock.undo());
            Check.is("after undo of change " + number, before, picture(clock));
        }
    }

    private static TollClock withSomeOfAll() {
        TollClock clock = Check.withParties("a");
        clock.serve(0, 0, 'p');
        clock.stayAll(1);
        clock.addOccurrence(0, 0);
        clock.addOccurrence(0, 1);
        clock.addHoliday(9);
        clock.fileClaim(0, 0);
        return clock;
    }

    /** One change of each kind that can be undone. */
    private static Check.Call[] changes(TollClock clock) {
        return new Check.Call[] {() -> Check.party(clock, "b"), () -> clock.advance(3), () -> clock.addHoliday(4),
            () -> clock.removeHoliday(9), () -> clock.setRule(0, 3, true), () -> clock.setServiceDays('p', 9),
            () -> clock.serve(0, 1, 'm'), () -> clock.extendByConsent(0, 4), () -> clock.extendByOrder(0, 5),
            () -> clock.file(0), () -> clock.strike(0), () -> clock.stayParty(0, 2), () -> clock.stayAll(2),
            () -> clock.lift(0), () -> clock.addOccurrence(0, 2), () -> clock.linkOccurrences(0, 1),
            () -> clock.fileClaim(0, 1), () -> clock.amendClaim(0, 1), () -> Check.run(clock, "day;stay 1")};
    }

    /** What can be seen of a docket, but for what an undone change leaves. */
    private static String picture(TollClock clock) {
        StringBuilder text = new StringBuilder();
        text.append(clock.parties()).append(' ').append(clock.today()).append(' ');
        text.append(clock.courtDays(0, 9)).append(clock.isCourtDay(9)).append(clock.isCourtDay(4));
        for (int rule = 0; rule < 8; rule++) {
            text.append(clock.ruleLength(rule)).append(clock.countsCourtDays(rule));
        }
        text.append(clock.serviceDays('p')).append(clock.serviceDays('e')).append(' ');
        for (int deadline = 0; deadline < clock.deadlines(); deadline++) {
            text.append(clock.status(deadline)).append(clock.daysLeft(deadline)).append(' ');
            text.append(clock.extensionDays(deadline)).append(' ').append(clock.stoppedDays(deadline, 0, 4999));
        }
        text.append(clock.staysInForce()).append(' ');
        text.append(seen(() -> clock.barDay(2))).append(seen(() -> clock.sameConduct(0, 1)));
        text.append(seen(() -> clock.effectiveDay(1))).append(seen(() -> clock.effectiveDay(2)));
        return text.toString();
    }

    private static String seen(Check.Call call) {
        try {
            return String.valueOf(call.answer());
        } catch (RuntimeException thrown) {
            return thrown.getClass().getName();
        }
    }

    private static void promise63WhatItLeaves() {
        TollClock clock = Check.withParties("xyz");
        clock.serve(0, 0, 'p');
        clock.writeNameReversed(0);
        Check.fails("not a program", IllegalArgumentException.class, () -> Check.run(clock, "dax"));
        Check.fails("failing", UnsupportedOperationException.class, () -> Check.run(clock, "day;day 0"));
        Check.type(clock, "abc");
        clock.undo();
        clock.undo();
        Check.is("line", "zyx", Check.line(clock, 3));
        Check.is("error position", 2, clock.errorPosition());
        Check.is("failed command", 1, clock.failedCommand());
        Check.is("buffer", 4, clock.type('d'));
        Check.is("party of the buffer", 0, clock.addParty());
        Check.is("its length", 4, clock.nameLength(0));
        clock.undo();
        Check.is("the buffer stays empty", 1, clock.type('a'));
    }
}
