import java.util.NoSuchElementException;

/** The boundary cases of promises 57 to 63: the output line, the invariants, the programs and undo. */
public final class ProgramsEdgesTest {
    private static final String FIFTEEN_DAYS = "day;day;day;day;day;day;day;day;day;day;day;day;day;day;day";

    public static void main(String[] args) {
        edgesOfTheLine();
        edgesOfTheInvariants();
        edgesOfRunning();
        edgesOfUndo();
        Edges.allTested(57, 63);
        Check.end();
    }

    private static void edgesOfTheLine() {
        Edges.test(57, "which replaces its old content", ProgramsEdgesTest::deadlineReplacesTheLine);
        Edges.test(57, "its due day or \"-\" if there is none", ProgramsEdgesTest::lineWithoutADueDay);
        Edges.test(57, "if its extensions have granted days", ProgramsEdgesTest::lineOfExtensions);
        Edges.test(57, "for example \"4:o2>117+9\" or \"0:s1>-\"", ProgramsEdgesTest::linesOfTheDocument);
        Edges.test(57, "its number, \":\", its status as in status, its party, \">\"",
                ProgramsEdgesTest::linesOfFirstAndLastNumbers);
        Edges.test(57, "there is no such deadline", ProgramsEdgesTest::lineOfNoDeadline);
        Edges.test(58, "which is initially empty", ProgramsEdgesTest::lineIsInitiallyEmpty);
        Edges.test(58, "counted from 0", ProgramsEdgesTest::firstAndLastCharacter);
        Edges.test(58, "the index is negative", ProgramsEdgesTest::negativeIndex);
        Edges.test(58, "not less than the number of characters", ProgramsEdgesTest::indexBehindTheLine);
    }

    private static void edgesOfTheInvariants() {
        Edges.test(59, "both ways of computing the due day agree, or there is none in both ways",
                ProgramsEdgesTest::consistentWithoutDueDays);
        Edges.test(59, "from day 0 to the present day", ProgramsEdgesTest::consistentOnFirstAndLastDay);
        Edges.test(59, "for each pair of occurrences", ProgramsEdgesTest::consistentWithAllLinks);
    }

    private static void edgesOfRunning() {
        Edges.test(60, "either all of them or, if one of them fails, none", ProgramsEdgesTest::allCommandsOrNone);
        Edges.test(60, "The buffer is empty afterwards, also if an exception is thrown.",
                ProgramsEdgesTest::runEmptiesTheBuffer);
        Edges.test(60, "Returns the number of commands.", ProgramsEdgesTest::oneCommandToFifteen);
        Edges.test(60, "the content is not a program; its error position is recorded",
                ProgramsEdgesTest::noProgramIsRefused);
        Edges.test(60, "a command fails, that is, if its method throws an exception; the number of this command,"
                + " counted from 0, is recorded", ProgramsEdgesTest::eachFailureOfACommand);
        Edges.test(61, "of the latest content that was not a program", ProgramsEdgesTest::latestErrorPosition);
        Edges.test(61, "there was no such content", ProgramsEdgesTest::noErrorPosition);
        Edges.test(62, "of the latest command that failed", ProgramsEdgesTest::latestFailedCommand);
        Edges.test(62, "no command failed", ProgramsEdgesTest::noFailedCommand);
    }

    private static void edgesOfUndo() {
        Edges.test(63, "Undoes the latest change that was not undone.", ProgramsEdgesTest::latestChangeFirst);
        Edges.test(63, "the number of changes that can still be undone", ProgramsEdgesTest::undoDownToNone);
        Edges.test(63, "the number of changes that can still be undone", ProgramsEdgesTest::undoOfManyChanges);
        Edges.test(63, "no change can be undone", ProgramsEdgesTest::nothingToUndo);
    }

    private static void checkLine(TollClock clock, int deadline, String want) {
        Check.is("length of the line", want.length(), clock.writeDeadline(deadline));
        Check.is("line", want, Check.line(clock, want.length()));
    }

    private static void deadlineReplacesTheLine() {
        TollClock clock = Check.withParties("abcdefgh");
        clock.serve(0, 0, 'p');
        clock.writeNameReversed(0);
        checkLine(clock, 0, "0:o0>10");
        clock.extendByOrder(0, 100);
        checkLine(clock, 0, "0:o0>112+100");
        clock.undo();
        checkLine(clock, 0, "0:o0>10");
    }

    private static void lineWithoutADueDay() {
        TollClock clock = Check.withParties("a");
        clock.setRule(0, 1, false);
        clock.serve(0, 0, 'p');
        clock.advance(1);
        clock.stayAll(1);
        checkLine(clock, 0, "0:o0>1");
        clock.serve(0, 0, 'p');
        checkLine(clock, 1, "1:o0>-");
        clock.file(1);
        checkLine(clock, 1, "1:t0>-");
    }

    private static void lineOfExtensions() {
        TollClock clock = Check.withParties("a");
        clock.setRule(0, 4, false);
        clock.serve(0, 0, 'p');
        checkLine(clock, 0, "0:o0>4");
        clock.extendByConsent(0, 1);
        checkLine(clock, 0, "0:o0>7+1");
        clock.extendByOrder(0, 8);
        checkLine(clock, 0, "0:o0>15+9");
        clock.extendByOrder(0, 1);
        checkLine(clock, 0, "0:o0>16+10");
        clock.strike(0);
        checkLine(clock, 0, "0:s0>16+10");
    }

    private static void linesOfTheDocument() {
        TollClock clock = Check.withParties("a", "b", "c");
        clock.stayParty(1, 255);
        clock.serve(1, 0, 'p');
        clock.strike(0);
        checkLine(clock, 0, "0:s1>-");
        for (int count = 1; count < 4; count++) {
            clock.serve(0, 0, 'p');
        }
        // Day 117 of the document's example is a Saturday and so never a due day: here it is day 116.
        clock.setRule(0, 107, false);
        clock.serve(2, 0, 'p');
        clock.extendByConsent(4, 9);
        checkLine(clock, 4, "4:o2>116+9");
    }

    private static void linesOfFirstAndLastNumbers() {
        TollClock clock = Check.withParties("a", "b", "c", "d", "e", "f", "g", "h");
        clock.setRule(0, 1, false);
        for (int deadline = 0; deadline < 29; deadline++) {
            clock.serve(deadline == 0 ? 0 : 7, 0, 'p');
        }
        checkLine(clock, 0, "0:o0>1");
        checkLine(clock, 9, "9:o7>1");
        checkLine(clock, 10, "10:o7>1");
        Check.goTo(clock, 1500);
        clock.file(28);
        checkLine(clock, 28, "28:l7>1");
        clock.serve(7, 7, 'a');
        clock.extendByConsent(29, 28);
        for (int count = 0; count < 3; count++) {
            clock.extendByOrder(29, 100);
        }
        checkLine(clock, 29, "29:o7>1955+328");
    }

    private static void lineOfNoDeadline() {
        TollClock clock = Check.withParties("a");
        Edges.noIndex("deadline of none", 0, clock::writeDeadline);
        clock.serve(0, 0, 'p');
        clock.writeDeadline(0);
        clock.strike(0);
        Edges.noIndex("deadline of one", 1, clock::writeDeadline);
        Check.is("the line is kept", "0:o0>10", Check.line(clock, 7));
    }

    private static void lineIsInitiallyEmpty() {
        TollClock clock = Check.withParties("a");
        clock.serve(0, 0, 'p');
        Check.fails("before the first line", IndexOutOfBoundsException.class, () -> clock.charAt(0));
        clock.writeNameReversed(0);
        Check.is("the first line", 'a', clock.charAt(0));
    }

    private static void firstAndLastCharacter() {
        TollClock clock = Check.withParties("12345678", "\ud83d\ude00".repeat(8));
        clock.writeNameReversed(0);
        Check.is("first", '8', clock.charAt(0));
        Check.is("last", '1', clock.charAt(7));
        clock.writeNameReversed(1);
        Check.is("first half", '\ud83d', clock.charAt(0));
        Check.is("last half", '\ude00', clock.charAt(15));
    }

    private static void negativeIndex() {
        TollClock clock = Check.withParties("12345678");
        int[] indices = {-1, -8, Integer.MIN_VALUE, Integer.MIN_VALUE + 1};
        for (int index : indices) {
            Check.fails("of the empty line " + index, IndexOutOfBoundsException.class, () -> clock.charAt(index));
        }
        clock.writeNameReversed(0);
        for (int index : indices) {
            Check.fails("of a line " + index, IndexOutOfBoundsException.class, () -> clock.charAt(index));
        }
    }

    private static void indexBehindTheLine() {
        TollClock clock = Check.withParties("\ud83d\ude00".repeat(8), "ab");
        Edges.noIndex("of the empty line", 0, index -> clock.charAt(index));
        clock.writeNameReversed(0);
        Edges.noIndex("of a line of 16", 16, index -> clock.charAt(index));
        clock.writeNameReversed(1);
        Edges.noIndex("of a shorter line", 2, index -> clock.charAt(index));
    }

    private static void consistentWithoutDueDays() {
        TollClock clock = Check.withParties("a", "b");
        Check.is("no deadline", true, clock.isConsistent());
        clock.stayAll(1);
        clock.serve(0, 0, 'p');
        clock.serve(1, 1, 'a');
        Check.is("one without a due day", true, clock.isConsistent());
        clock.stayAll(255);
        Check.is("none has a due day", true, clock.isConsistent());
        clock.advance(30);
        clock.lift(0);
        Check.is("lifted for one", true, clock.isConsistent());
    }

    private static void consistentOnFirstAndLastDay() {
        TollClock clock = Check.withParties("a");
        clock.addHoliday(0);
        clock.serve(0, 1, 'a');
        clock.stayAll(1);
        Check.is("on day 0", true, clock.isConsistent());
        Check.goTo(clock, 1500);
        clock.addHoliday(1500);
        clock.serve(0, 7, 'a');
        clock.lift(0);
        clock.stayAll(255);
        Check.is("on day 1500", true, clock.isConsistent());
    }

    private static void consistentWithAllLinks() {
        TollClock clock = new TollClock();
        for (int one = 0; one < 8; one++) {
            clock.addOccurrence(0, one);
            Check.is("without its links", true, clock.isConsistent());
            for (int other = 0; other < one; other++) {
                clock.linkOccurrences(one, other);
                Check.is("with a link", true, clock.isConsistent());
            }
        }
    }

    private static void allCommandsOrNone() {
        TollClock clock = Check.withParties("a");
        Check.fails("the last one fails", UnsupportedOperationException.class,
                () -> Check.run(clock, "day;holiday 3;stay 1;serve 0 0 p;file 0;lift 1"));
        Check.is("today", 0, clock.today());
        Check.is("holidays", true, clock.isCourtDay(3));
        Check.is("stays", 0, clock.staysInForce());
        Check.is("deadlines", 0, clock.deadlines());
        Check.is("all of them", 6, Check.run(clock, "day;holiday 3;stay 1;serve 0 0 p;file 0;lift 0"));
        Check.is("today", 1, clock.today());
        Check.is("holidays", false, clock.isCourtDay(3));
        Check.is("stays", 0, clock.staysInForce());
        Check.is("status", 't', clock.status(0));
        Check.is("undone at once", 1, clock.undo());
        Check.is("today", 0, clock.today());
        Check.is("deadlines", 0, clock.deadlines());
    }

    private static void runEmptiesTheBuffer() {
        TollClock clock = new TollClock();
        Check.run(clock, "day");
        Check.is("after a program", 1, clock.type('d'));
        Check.fails("no program", IllegalArgumentException.class, clock::run);
        Check.is("after no program", 1, clock.type('d'));
        Check.type(clock, "ay 0");
        Check.fails("a failing program", UnsupportedOperationException.class, clock::run);
        Check.is("after a failing program", 1, clock.type('d'));
    }

    private static void oneCommandToFifteen() {
        for (int count = 1; count <= 15; count++) {
            TollClock clock = new TollClock();
            Check.is("commands", count, Check.run(clock, FIFTEEN_DAYS.substring(0, 4 * count - 1)));
            Check.is("today", count, clock.today());
        }
        TollClock clock = new TollClock();
        String sixty = "stay 0255;stay 0001;lift 0000;lift 0001;holiday 4999;day 040";
        Check.is("sixty characters", 6, Check.run(clock, sixty));
        Check.is("today", 40, clock.today());
    }

    private static void noProgramIsRefused() {
        String[] texts = {"", ";", "day;", "Day", "day 12345", FIFTEEN_DAYS + ";", FIFTEEN_DAYS + "d"};
        int[] positions = {0, 0, 4, 0, 8, 60, 59};
        for (int index = 0; index < texts.length; index++) {
            String text = texts[index];
            TollClock clock = new TollClock();
            Check.fails("run of " + text, IllegalArgumentException.class, () -> Check.run(clock, text));
            Check.is("error position of " + text, positions[index], clock.errorPosition());
            Check.is("no command of it is executed", 0, clock.today());
            Check.fails("no command failed", NoSuchElementException.class, clock::failedCommand);
            Check.fails("nothing to undo", IllegalStateException.class, clock::undo);
        }
    }

    /** Each command with each exception of its method, alone and behind others. */
    private static void eachFailureOfACommand() {
        String[] failing = {"serve 1 0 p", "serve 0 8 p", "serve 9 9 a", "day 0", "day 401", "day 9999", "stay 0",
            "stay 256", "stay 9999", "lift 0", "lift 9999", "more 0 0", "more 0 29", "more 9999 1", "more 1 1",
            "file 1", "file 9999", "holiday 5000", "holiday 9999"};
        for (String command : failing) {
            fails(withDeadline(), command, 0);
            fails(withDeadline(), "day;holiday 9;" + command, 2);
            fails(withDeadline(), command + ";day", 0);
        }
        fails(withDeadline(), "day 400;day 400;day 400;day 301", 3);
        fails(withDeadline(), "holiday 4999;holiday 4999", 1);
        fails(withDeadline(), "stay 1;lift 0;lift 0", 2);
        fails(withDeadline(), "file 0;file 0", 1);
        fails(withDeadline(), "file 0;more 0 1", 1);
        fails(withDeadline(), "more 0 1;more 0 1;more 0 1", 2);
        fails(withDeadline(), "more 0 28;more 0 1", 1);
        fails(withDeadline(), "day 11;more 0 1", 1);
        fails(withDeadline(), FIFTEEN_DAYS.substring(0, 54) + "day 0", -1);
        fails(withDeadline(), FIFTEEN_DAYS.substring(0, 48) + "day 0", 12);
        fails(withDeadline(), FIFTEEN_DAYS.substring(0, 52) + "file 1", 13);
    }

    private static TollClock withDeadline() {
        TollClock clock = Check.withParties("a");
        clock.serve(0, 0, 'p');
        return clock;
    }

    private static void fails(TollClock clock, String program, int want) {
        if (want < 0) {
            Check.fails("run of " + program, IllegalArgumentException.class, () -> Check.run(clock, program));
            return;
        }
        Check.fails("run of " + program, UnsupportedOperationException.class, () -> Check.run(clock, program));
        Check.is("failed command of " + program, want, clock.failedCommand());
        Check.fails("it was a program", NoSuchElementException.class, clock::errorPosition);
        Check.is("today after " + program, 0, clock.today());
        Check.is("line after " + program, 7, clock.writeDeadline(0));
        Check.is("stays after " + program, 0, clock.staysInForce());
        Check.is("undo after " + program, 1, clock.undo());
    }

    private static void latestErrorPosition() {
        TollClock clock = new TollClock();
        Check.fails("third character", IllegalArgumentException.class, () -> Check.run(clock, "dax"));
        Check.is("first", 2, clock.errorPosition());
        Check.fails("empty", IllegalArgumentException.class, clock::run);
        Check.is("latest", 0, clock.errorPosition());
        Check.fails("prefix", IllegalArgumentException.class, () -> Check.run(clock, FIFTEEN_DAYS + ";"));
        Check.is("latest", 60, clock.errorPosition());
        Check.run(clock, "day");
        Check.is("still the latest", 60, clock.errorPosition());
        Check.is("asked again", 60, clock.errorPosition());
    }

    private static void noErrorPosition() {
        TollClock clock = new TollClock();
        Check.fails("no content", NoSuchElementException.class, clock::errorPosition);
        Check.run(clock, "day");
        Check.fails("a program", NoSuchElementException.class, clock::errorPosition);
        Check.fails("a failing program", UnsupportedOperationException.class, () -> Check.run(clock, "day 0"));
        Check.fails("still none", NoSuchElementException.class, clock::errorPosition);
        Check.fails("no name", IllegalArgumentException.class, clock::addParty);
        Check.fails("a refused name is none", NoSuchElementException.class, clock::errorPosition);
    }

    private static void latestFailedCommand() {
        TollClock clock = new TollClock();
        Check.fails("third", UnsupportedOperationException.class, () -> Check.run(clock, "day;day;day 0"));
        Check.is("first failure", 2, clock.failedCommand());
        Check.fails("first", UnsupportedOperationException.class, () -> Check.run(clock, "lift 0;day;day 0"));
        Check.is("latest failure", 0, clock.failedCommand());
        Check.run(clock, "day");
        Check.fails("no program", IllegalArgumentException.class, () -> Check.run(clock, "day;day 12345"));
        Check.is("still the latest failure", 0, clock.failedCommand());
        Check.fails("a refused call", IllegalArgumentException.class, () -> clock.advance(0));
        Check.is("asked again", 0, clock.failedCommand());
    }

    private static void noFailedCommand() {
        TollClock clock = new TollClock();
        Check.fails("no program at all", NoSuchElementException.class, clock::failedCommand);
        Check.run(clock, "day");
        Check.fails("a program that holds", NoSuchElementException.class, clock::failedCommand);
        Check.fails("no program", IllegalArgumentException.class, () -> Check.run(clock, "day;dax"));
        Check.fails("a refused call", IllegalArgumentException.class, () -> clock.advance(0));
        Check.fails("still none", NoSuchElementException.class, clock::failedCommand);
    }

    private static void latestChangeFirst() {
        TollClock clock = new TollClock();
        clock.advance(1);
        clock.advance(2);
        clock.undo();
        Check.is("without the second", 1, clock.today());
        clock.advance(5);
        Check.is("a third", 6, clock.today());
        clock.undo();
        Check.is("without the third", 1, clock.today());
        clock.undo();
        Check.is("without the first", 0, clock.today());
    }

    private static void undoDownToNone() {
        for (int changes = 1; changes <= 12; changes++) {
            TollClock clock = new TollClock();
            for (int count = 1; count <= changes; count++) {
                clock.advance(1);
            }
            int most = Math.min(8, changes);
            for (int left = most - 1; left >= 0; left--) {
                Check.is("left of " + changes, left, clock.undo());
                Check.is("today", changes - most + left, clock.today());
            }
            Check.fails("none left of " + changes, IllegalStateException.class, clock::undo);
            Check.is("today", changes - most, clock.today());
        }
    }

    /** More changes than are kept, with undone ones between: what is kept is used again and again. */
    private static void undoOfManyChanges() {
        TollClock clock = new TollClock();
        int kept = 0;
        int today = 0;
        for (int round = 0; round < 60; round++) {
            for (int count = 0; count < 1 + round % 5; count++) {
                today++;
                kept = Math.min(8, kept + 1);
                Check.is("change", today, clock.advance(1));
            }
            for (int count = 0; count < round % 4 && kept > 0; count++) {
                today--;
                kept--;
                Check.is("undo", kept, clock.undo());
            }
            Check.is("today", today, clock.today());
        }
    }

    private static void nothingToUndo() {
        TollClock clock = new TollClock();
        Check.fails("of a new object", IllegalStateException.class, clock::undo);
        clock.type('a');
        Check.fails("typing is no change", IllegalStateException.class, clock::undo);
        clock.addParty();
        Check.is("the party", 0, clock.undo());
        Check.fails("it is undone", IllegalStateException.class, clock::undo);
        Check.fails("a refused call", IllegalArgumentException.class, () -> clock.advance(0));
        Check.fails("a refused call is no change", IllegalStateException.class, clock::undo);
        Check.fails("a failing program", UnsupportedOperationException.class, () -> Check.run(clock, "day;day 0"));
        Check.fails("a failing program is no change", IllegalStateException.class, clock::undo);
        Check.is("today", 0, clock.today());
    }
}
