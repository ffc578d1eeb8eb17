import java.util.NoSuchElementException;

/** The boundary cases of the terms on programs and undo. */
final class ProgramTerms {
    private static final String TERMS = "Terms";
    private static final String FIFTEEN_DAYS = "day;day;day;day;day;day;day;day;day;day;day;day;day;day;day";
    /** Every command, with numbers of each length. */
    private static final String[] PROGRAMS = {"serve 0 7 p", "serve 9 0 a;day", "serve 1 2 m;serve 3 4 e", "day",
        "day 1", "day 40;day 0400;day 123", "stay 1;stay 255;stay 0016", "lift 0;lift 11;lift 123;lift 1234",
        "more 0 1;more 12 28;more 1234 5678", "file 7;file 29;file 0000", "holiday 4999;holiday 5;holiday 77",
        FIFTEEN_DAYS};

    private ProgramTerms() {
    }

    static void test() {
        Edges.test(TERMS, "program = command { \";\" command", ProgramTerms::oneCommandOrMore);
        Edges.test(TERMS, "\"serve \" digit \" \" digit \" \" ( \"p\" | \"e\" | \"m\" | \"a\" )", ProgramTerms::formOfServe);
        Edges.test(TERMS, "\"day\" [ \" \" number ]", ProgramTerms::formOfDay);
        Edges.test(TERMS, "\"stay \" number | \"lift \" number | \"more \" number \" \" number | \"file \" number |"
                + " \"holiday \" number", ProgramTerms::formsOfOtherCommands);
        Edges.test(TERMS, "number = digit [ digit [ digit [ digit ] ] ]", ProgramTerms::numbersOfOneToFourDigits);
        Edges.test(TERMS, "A digit is a character from \"0\" to \"9\".", ProgramTerms::digitsFromZeroToNine);
        Edges.test(TERMS, "where \"day\" without a number means one day", ProgramTerms::dayWithoutANumber);
        Edges.test(TERMS, "the index of the first character at which no program can continue",
                ProgramTerms::eachCharacterAtEachPlace);
        Edges.test(TERMS, "the length of the text if the text is a proper prefix of a program", ProgramTerms::eachPrefix);
        Edges.test(TERMS, "The 8 latest changes can be undone.", ProgramTerms::eightLatestChanges);
        Edges.test(TERMS, "A change is a successful call of addParty, advance, addHoliday, removeHoliday, setRule,"
                + " setServiceDays, serve, extendByConsent, extendByOrder, file, strike, stayParty, stayAll, lift,"
                + " addOccurrence, linkOccurrences, fileClaim, amendClaim or run.", ProgramTerms::eachChangeIsUndone);
        Edges.test(TERMS, "A change is a successful call of", ProgramTerms::otherCallsAreNoChanges);
        Edges.test(TERMS, "Everything becomes as it was before the change", ProgramTerms::holidaysAreThereAgain);
        Edges.test(TERMS, "Everything becomes as it was before the change", ProgramTerms::partsAreGoneAgain);
        Edges.test(TERMS, "Everything becomes as it was before the change", ProgramTerms::undoOfAFullDocket);
        Edges.test(TERMS, "except the text buffer, the recorded error position, the recorded failed command and the"
                + " output line", ProgramTerms::whatUndoLeaves);
    }

    private static void checkError(String text, int want) {
        TollClock clock = new TollClock();
        Check.fails("run of " + text, IllegalArgumentException.class, () -> Check.run(clock, text));
        Check.is("error position of " + text, want, clock.errorPosition());
    }

    private static void checkRuns(String text, int want) {
        TollClock clock = Check.withParties("a");
        clock.serve(0, 0, 'p');
        clock.stayAll(2);
        Check.is("run of " + text, want, Check.run(clock, text));
    }

    private static void oneCommandOrMore() {
        checkError("", 0);
        checkError(";", 0);
        checkError("day;", 4);
        checkError(";day", 0);
        checkError("day;;day", 4);
        checkError("day day", 4);
        checkError("day; day", 4);
        checkError("day ;day", 4);
        checkError("day,day", 3);
        checkRuns("day", 1);
        checkRuns("day;day", 2);
        checkRuns(FIFTEEN_DAYS, 15);
        checkError(FIFTEEN_DAYS + ";", 60);
    }

    private static void formOfServe() {
        for (char way : "pema".toCharArray()) {
            checkRuns("serve 0 7 " + way, 1);
        }
        checkError("serve 0 7 b", 10);
        checkError("serve 0 7 P", 10);
        checkError("serve 0 7 pm", 11);
        checkError("serve 00 7 p", 7);
        checkError("serve 0 07 p", 9);
        checkError("serve 0 7p", 9);
        checkError("serve 07 p", 7);
        checkError("serve  0 7 p", 6);
        checkError("serve0 7 p", 5);
        checkError("serve p 7 p", 6);
        checkError("serve 0 7", 9);
        checkError("serve 0 7;", 9);
        checkError("serve 0 7 p ", 11);
    }

    private static void formOfDay() {
        checkRuns("day", 1);
        checkRuns("day 1", 1);
        checkRuns("day 0001", 1);
        checkError("day ", 4);
        checkError("day  1", 4);
        checkError("day1", 3);
        checkError("day;day ", 8);
        checkError("days", 3);
        checkError("da", 2);
        checkError("day -1", 4);
        checkError("day 1 ", 5);
    }

    private static void formsOfOtherCommands() {
        String[] words = {"stay", "lift", "file", "holiday"};
        for (String word : words) {
            int length = word.length();
            checkRuns(word + (word.equals("stay") ? " 1" : " 0"), 1);
            checkError(word, length);
            checkError(word + " ", length + 1);
            checkError(word + ";", length);
            checkError(word + "s 1", length);
            checkError(word + " 1 1", length + 2);
            checkError(word + "  1", length + 1);
            checkError(word + " 12345", length + 5);
        }
        checkRuns("more 0 1", 1);
        checkError("more 0", 6);
        checkError("more 0 ", 7);
        checkError("more 0;", 6);
        checkError("more 0 1 ", 8);
        checkError("more 12345 1", 9);
        checkError("more 1 12345", 11);
        checkError("more  0 1", 5);
    }

    private static void numbersOfOneToFourDigits() {
        TollClock clock = Check.withParties("a");
        String[] numbers = {"7", "07", "007", "0007", "12", "123", "0400"};
        int[] days = {7, 7, 7, 7, 12, 123, 400};
        int today = 0;
        for (int index = 0; index < numbers.length; index++) {
            today += days[index];
            Check.run(clock, "day " + numbers[index]);
            Check.is("today after day " + numbers[index], today, clock.today());
        }
        Check.run(clock, "holiday 4999");
        Check.is("the longest number", false, clock.isCourtDay(4999));
        Check.fails("9999 is a number", UnsupportedOperationException.class, () -> Check.run(clock, "holiday 9999"));
        Check.fails("0000 is a number", UnsupportedOperationException.class, () -> Check.run(clock, "day 0000"));
        checkError("day 00000", 8);
        checkError("holiday 49990", 12);
        checkError("day ;", 4);
    }

    private static void digitsFromZeroToNine() {
        for (char digit = '0'; digit <= '9'; digit++) {
            TollClock clock = new TollClock();
            Check.is("holiday 100" + digit, 1, Check.run(clock, "holiday 100" + digit));
            Check.is("it is removed", 0, clock.removeHoliday(1000 + digit - '0'));
        }
        char[] others = {0, ' ', '!', '-', '/', ':', 'a', 0xB2, '0' + 256, '9' + 256, 0x660, 0x6F0, 0xFF10, 0xFF19, 0xFFFF};
        for (char other : others) {
            checkError("holiday " + other, 8);
            checkError("holiday 1" + other, 9);
            checkError("serve " + other + " 0 p", 6);
            checkError("serve 0 " + other + " p", 8);
        }
    }

    private static void dayWithoutANumber() {
        TollClock clock = new TollClock();
        Check.run(clock, "day");
        Check.is("one day", 1, clock.today());
        Check.run(clock, "day 5;day;day 2");
        Check.is("nine days", 9, clock.today());
        Check.goTo(clock, 1499);
        Check.is("to the last present day", 1, Check.run(clock, "day"));
        Check.fails("one more", UnsupportedOperationException.class, () -> Check.run(clock, "day"));
    }

    /** What the second model of the document answers for a text: its error position, or -1. */
    private static int modelledError(String text) {
        PlainModel model = new PlainModel();
        for (char sign : text.toCharArray()) {
            model.answer("type", new Object[] {sign});
        }
        try {
            model.answer("run", new Object[0]);
            return -1;
        } catch (IllegalArgumentException thrown) {
            return (Integer) model.answer("errorPosition", new Object[0]);
        } catch (UnsupportedOperationException thrown) {
            return -1;
        }
    }

    private static void checkLikeModel(String text) {
        int want = modelledError(text);
        if (want >= 0) {
            checkError(text, want);
        } else {
            TollClock clock = new TollClock();
            FullDocket.seen(() -> Check.run(clock, text));
            Check.fails("it is a program: " + text, NoSuchElementException.class, clock::errorPosition);
        }
    }

    private static void eachCharacterAtEachPlace() {
        String signs = "0159/: ;pemasrvdyliftohx\u0000\n\uffff\u0130";
        for (String program : PROGRAMS) {
            for (int place = 0; place < program.length(); place++) {
                for (char sign : signs.toCharArray()) {
                    checkLikeModel(program.substring(0, place) + sign + program.substring(place + 1));
                }
                checkLikeModel(program.substring(0, place) + program.substring(place + 1));
            }
        }
        checkError("dax;dax", 2);
        checkError("stx", 2);
        checkError("sex", 2);
        checkError("hx", 1);
    }

    private static void eachPrefix() {
        for (String program : PROGRAMS) {
            for (int length = 0; length < program.length(); length++) {
                checkLikeModel(program.substring(0, length));
            }
        }
        String[] prefixes = {"", "s", "se", "serve ", "serve 0 0 ", "d", "da", "day ", "st", "stay ", "l", "lift ", "m",
            "more ", "more 1", "more 1234", "more 1234 ", "f", "file ", "h", "holiday ", "day;", "day 1234;", "day;s"};
        for (String prefix : prefixes) {
            checkError(prefix, prefix.length());
        }
        checkError(FIFTEEN_DAYS + ";", 60);
        checkError("holiday 0001;holiday 0002;holiday 0003;holiday 0004;holiday ", 60);
    }

    private static void eightLatestChanges() {
        TollClock clock = new TollClock();
        clock.addHoliday(0);
        for (int count = 1; count <= 8; count++) {
            clock.advance(1);
        }
        for (int left = 7; left >= 0; left--) {
            Check.is("left", left, clock.undo());
            Check.is("today", left, clock.today());
        }
        Check.fails("a ninth", IllegalStateException.class, clock::undo);
        Check.is("the ninth latest change stays", false, clock.isCourtDay(0));
        Check.is("a change after them", 2, clock.addHoliday(1));
        Check.is("is undone", 0, clock.undo());
        Check.fails("and no other", IllegalStateException.class, clock::undo);
    }

    private static void eachChangeIsUndone() {
        int kinds = changes(new TollClock()).length;
        Check.is("kinds of changes", 19, kinds);
        for (int kind = 0; kind < kinds; kind++) {
            TollClock clock = withSomeOfAll();
            String before = FullDocket.picture(clock);
            changes(clock)[kind].answer();
            Check.is("change " + kind + " is seen", false, before.equals(FullDocket.picture(clock)));
            Check.is("undo of change " + kind, 7, clock.undo());
            Check.is("after undo of change " + kind, before, FullDocket.picture(clock));
        }
    }

    private static TollClock withSomeOfAll() {
        TollClock clock = Check.withParties("a");
        clock.serve(0, 0, 'm');
        clock.stayAll(2);
        clock.addOccurrence(0, 0);
        clock.addOccurrence(0, 2);
        clock.addHoliday(9);
        clock.addHoliday(10);
        clock.extendByConsent(0, 1);
        clock.fileClaim(0, 0);
        return clock;
    }

    private static Check.Call[] changes(TollClock clock) {
        return new Check.Call[] {() -> Check.party(clock, "b"), () -> clock.advance(3), () -> clock.addHoliday(14),
            () -> clock.removeHoliday(9), () -> clock.setRule(0, 11, true), () -> clock.setServiceDays('a', 15),
            () -> clock.serve(0, 1, 'm'), () -> clock.extendByConsent(0, 4), () -> clock.extendByOrder(0, 5),
            () -> clock.file(0), () -> clock.strike(0), () -> clock.stayParty(0, 1), () -> clock.stayAll(4),
            () -> clock.lift(0), () -> clock.addOccurrence(0, 4), () -> clock.linkOccurrences(0, 1),
            () -> clock.fileClaim(0, 1), () -> clock.amendClaim(0, 1), () -> Check.run(clock, "holiday 8;file 0")};
    }

    /** Each holiday that is removed is there again, whichever it was. */
    private static void holidaysAreThereAgain() {
        int[] days = {0, 3, 7, 11, 4999};
        for (int removed : days) {
            TollClock clock = new TollClock();
            for (int day : days) {
                clock.addHoliday(day);
            }
            clock.removeHoliday(removed);
            clock.undo();
            for (int day : days) {
                Check.is("holiday " + day + " after undo of removing " + removed, false, clock.isCourtDay(day));
            }
            Check.is("all of them", 3567, clock.courtDaysByMarking(0, 4999));
        }
    }

    /** However often an extension is undone, there is room for all of them. */
    private static void partsAreGoneAgain() {
        TollClock clock = Check.withParties("a");
        clock.setRule(0, 4, false);
        clock.serve(0, 0, 'm');
        for (int round = 0; round < 10; round++) {
            clock.extendByOrder(0, 100);
            clock.extendByConsent(0, 28);
            clock.undo();
            clock.undo();
            Check.is("due day after undo", 7, clock.due(0));
            Check.is("days left after undo", 7, clock.daysLeft(0));
        }
        for (int count = 1; count <= 3; count++) {
            Check.is("orders", 7 * count, clock.extendByOrder(0, 7));
        }
        Check.is("consent", 28, clock.extendByConsent(0, 7));
        Check.is("second consent", 35, clock.extendByConsent(0, 7));
        Check.is("due day", 42, clock.due(0));
        Check.is("days left", 42, clock.daysLeftByMarking(0));
    }

    private static void otherCallsAreNoChanges() {
        TollClock clock = Check.withParties("a");
        clock.serve(0, 0, 'p');
        clock.type('a');
        clock.findParty();
        clock.writeNameReversed(0);
        clock.writeDeadline(0);
        clock.isConsistent();
        clock.openAt(0);
        clock.lastDayBefore(0, 100);
        Check.fails("refused", IllegalArgumentException.class, () -> clock.setRule(0, 0, true));
        Check.fails("failing", UnsupportedOperationException.class, () -> Check.run(clock, "day;day 0"));
        Check.fails("no program", IllegalArgumentException.class, clock::run);
        Check.is("undo of serve", 1, clock.undo());
        Check.is("deadlines", 0, clock.deadlines());
        Check.is("undo of addParty", 0, clock.undo());
        Check.is("parties", 0, clock.parties());
        Check.is("a change that changes no value", 10, clock.setRule(0, 10, false));
        Check.is("it is one", 0, clock.undo());
    }

    /** Everything that a full docket holds is there again after one program is undone. */
    private static void undoOfAFullDocket() {
        TollClock clock = FullDocket.make();
        Check.is("a program", 5, Check.run(clock, "more 7 8;file 7;lift 0;lift 1;day"));
        Check.is("today", FullDocket.TODAY + 1, clock.today());
        Check.is("undo", FullDocket.DAYS - 1, clock.undo());
        Check.is("docket", FullDocket.picture(FullDocket.make()), FullDocket.picture(clock));
    }

    private static void whatUndoLeaves() {
        TollClock clock = Check.withParties("abc");
        clock.serve(0, 0, 'p');
        clock.writeDeadline(0);
        Check.fails("no program", IllegalArgumentException.class, () -> Check.run(clock, "dax"));
        Check.fails("failing", UnsupportedOperationException.class, () -> Check.run(clock, "day;day 0"));
        Check.type(clock, "xy");
        Check.is("undo of serve", 1, clock.undo());
        Check.is("line", "0:o0>10", Check.line(clock, 7));
        Check.is("error position", 2, clock.errorPosition());
        Check.is("failed command", 1, clock.failedCommand());
        Check.is("buffer", 3, clock.type('z'));
        Check.is("undo of addParty", 0, clock.undo());
        Check.is("the buffer is a name", 0, clock.addParty());
        Check.is("its last code point", (int) 'z', clock.nameCodePoint(0, 2));
        Check.is("undo", 0, clock.undo());
        Check.is("the buffer stays empty", 1, clock.type('d'));
        Check.run(clock, "ay");
        Check.is("undo of a program", 0, clock.undo());
        Check.is("the buffer of a program stays empty", 1, clock.type('a'));
    }
}
