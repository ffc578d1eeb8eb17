import java.util.NoSuchElementException;

/** The boundary cases of promises 1 to 8: the new object, the text buffer and the parties. */
public final class PartiesEdgesTest {
    private static final String PAIR = "\ud83d\ude00";
    private static final String EIGHT_PAIRS = "\ud800\udc00\ud800\udfff\udbff\udc00\udbff\udfff" + PAIR + PAIR + PAIR + PAIR;
    private static final String BUFFER = "The buffer is empty afterwards, also if an exception is thrown.";
    private static final String NO_PARTY = "there is no such party";

    public static void main(String[] args) {
        Edges.test(1, "without parties, holidays, deadlines, stays, occurrences and claims",
                PartiesEdgesTest::newObjectHasNothing);
        Edges.test(2, "which is initially empty", PartiesEdgesTest::bufferIsInitiallyEmpty);
        Edges.test(2, "any character, also half of a surrogate pair", PartiesEdgesTest::anyCharacterIsTyped);
        Edges.test(2, "the number of characters in the buffer afterwards", PartiesEdgesTest::charactersAreCounted);
        Edges.test(2, "the buffer contains 60 characters", PartiesEdgesTest::bufferTakesSixty);
        Edges.test(2, "the buffer contains 60 characters", PartiesEdgesTest::refusedCharacterChangesNothing);
        Edges.test(3, BUFFER, PartiesEdgesTest::addPartyEmptiesTheBuffer);
        Edges.test(3, "the content is not a name", PartiesEdgesTest::noNameIsRefused);
        Edges.test(3, "there are 8 parties", PartiesEdgesTest::ninthPartyIsRefused);
        Edges.test(3, "a party has this name", PartiesEdgesTest::sameNameIsRefused);
        Edges.test(4, BUFFER, PartiesEdgesTest::findPartyEmptiesTheBuffer);
        Edges.test(4, "no party has this name", PartiesEdgesTest::unknownNameIsNotFound);
        Edges.test(4, "no party has this name", PartiesEdgesTest::noNameIsNotFound);
        Edges.test(5, "Returns the number of parties.", PartiesEdgesTest::partiesFromNoneToEight);
        Edges.test(6, "Returns the number of code points.", PartiesEdgesTest::shortestAndLongestName);
        Edges.test(6, NO_PARTY, () -> noParty((clock, party) -> clock.nameLength(party)));
        Edges.test(7, "counted from 0", PartiesEdgesTest::firstAndLastCodePoint);
        Edges.test(7, NO_PARTY, () -> noParty((clock, party) -> clock.nameCodePoint(party, 0)));
        Edges.test(7, "no such code point", PartiesEdgesTest::noCodePoint);
        Edges.test(8, "which replaces its old content", PartiesEdgesTest::reversedNameReplacesTheLine);
        Edges.test(8, "The two characters of a surrogate pair keep their order.", PartiesEdgesTest::pairsAreNotReversed);
        Edges.test(8, NO_PARTY, () -> noParty((clock, party) -> clock.writeNameReversed(party)));
        Edges.test(8, NO_PARTY, PartiesEdgesTest::refusedWritingKeepsTheLine);
        Edges.allTested(1, 8);
        Check.end();
    }

    interface OfParty {
        Object answer(TollClock clock, int party);
    }

    private static void newObjectHasNothing() {
        TollClock clock = new TollClock();
        Check.is("parties", 0, clock.parties());
        Check.is("court days: no holidays", 3572, clock.courtDays(0, 4999));
        Check.is("deadlines", 0, clock.deadlines());
        Check.is("stays", 0, clock.staysInForce());
        Check.fails("no party", IndexOutOfBoundsException.class, () -> clock.nameLength(0));
        Check.fails("no holiday", NoSuchElementException.class, () -> clock.removeHoliday(0));
        Check.fails("no deadline", IndexOutOfBoundsException.class, () -> clock.status(0));
        Check.fails("no stay", IndexOutOfBoundsException.class, () -> clock.lift(0));
        Check.fails("no occurrence", IndexOutOfBoundsException.class, () -> clock.barDay(0));
        Check.fails("no claim", IndexOutOfBoundsException.class, () -> clock.isTimely(0));
    }

    private static void bufferIsInitiallyEmpty() {
        Check.is("first character", 1, new TollClock().type('a'));
        Check.fails("the empty text is no name", IllegalArgumentException.class, () -> new TollClock().addParty());
    }

    private static void anyCharacterIsTyped() {
        char[] characters = {0, 1, ' ', 0x7F, 0x80, 0xFF, 0x100, 0xD7FF, 0xD800, 0xDBFF, 0xDC00, 0xDFFF, 0xE000, 0xFFFF};
        TollClock clock = new TollClock();
        for (int index = 0; index < characters.length; index++) {
            Check.is("character " + (int) characters[index], index + 1, clock.type(characters[index]));
        }
    }

    private static void charactersAreCounted() {
        TollClock clock = new TollClock();
        Check.is("half a pair", 1, clock.type(PAIR.charAt(0)));
        Check.is("both halves are two characters", 2, clock.type(PAIR.charAt(1)));
        clock.addParty();
        Check.is("after emptying", 1, clock.type('a'));
    }

    private static void bufferTakesSixty() {
        TollClock clock = new TollClock();
        for (int count = 1; count <= 60; count++) {
            Check.is("character " + count, count, clock.type('a'));
        }
        Check.fails("character 61", IllegalStateException.class, () -> clock.type('a'));
        Check.fails("character 61, another one", IllegalStateException.class, () -> clock.type(';'));
    }

    private static void refusedCharacterChangesNothing() {
        TollClock clock = new TollClock();
        Check.type(clock, "holiday 0001;holiday 0002;holiday 0003;holiday 0004;day 0001");
        Check.fails("character 61", IllegalStateException.class, () -> clock.type('1'));
        Check.is("the 60 characters", 5, clock.run());
        Check.is("after emptying", 1, clock.type('a'));
    }

    private static void addPartyEmptiesTheBuffer() {
        TollClock clock = new TollClock();
        Check.party(clock, "abc");
        Check.is("after a party", 1, clock.type(PAIR.charAt(0)));
        Check.fails("half a pair", IllegalArgumentException.class, clock::addParty);
        Check.is("after no name", 1, clock.type('a'));
        Check.type(clock, "bc");
        Check.fails("same name", IllegalStateException.class, clock::addParty);
        Check.is("after the same name", 1, clock.type('a'));
    }

    private static void noNameIsRefused() {
        String[] texts = {"", "123456789", EIGHT_PAIRS + "a", EIGHT_PAIRS + PAIR, "\ud83d", "\ude00", "\ude00\ud83d",
            PAIR + "\ude00", "\ud83d" + PAIR, "1234567\ud83d", "a".repeat(60), PAIR.repeat(30)};
        for (String text : texts) {
            TollClock clock = new TollClock();
            Check.fails("no name: " + text, IllegalArgumentException.class, () -> Check.party(clock, text));
            Check.is("parties", 0, clock.parties());
            Check.fails("no change", IllegalStateException.class, clock::undo);
        }
    }

    private static void ninthPartyIsRefused() {
        TollClock clock = new TollClock();
        for (int party = 0; party < 8; party++) {
            Check.is("party " + party, party, Check.party(clock, "p" + party));
        }
        Check.fails("ninth", IllegalStateException.class, () -> Check.party(clock, "p8"));
        Check.fails("ninth of a name that there is", IllegalStateException.class, () -> Check.party(clock, "p0"));
        Check.is("parties", 8, clock.parties());
        clock.undo();
        Check.is("eighth again", 7, Check.party(clock, "p8"));
    }

    private static void sameNameIsRefused() {
        TollClock clock = Check.withParties("a", "ab", PAIR);
        String[] names = {"a", "ab", PAIR};
        for (String name : names) {
            Check.fails("again " + name, IllegalStateException.class, () -> Check.party(clock, name));
        }
        Check.is("another length", 3, Check.party(clock, "aba"));
        Check.is("another order", 4, Check.party(clock, "ba"));
        Check.is("another last code point", 5, Check.party(clock, "ac"));
        Check.is("one half is the same", 6, Check.party(clock, "\ud83d\ude01"));
        clock.undo();
        Check.is("a name that was undone", 6, Check.party(clock, "\ud83d\ude01"));
    }

    private static void findPartyEmptiesTheBuffer() {
        TollClock clock = Check.withParties("abc");
        Check.type(clock, "abc");
        clock.findParty();
        Check.is("after finding", 1, clock.type('z'));
        Check.fails("not found", NoSuchElementException.class, clock::findParty);
        Check.is("after not finding", 1, clock.type('\ud83d'));
        Check.fails("no name", NoSuchElementException.class, clock::findParty);
        Check.is("after no name", 1, clock.type('z'));
    }

    private static void unknownNameIsNotFound() {
        TollClock none = new TollClock();
        notFound(none, "a");
        TollClock clock = Check.withParties("abc", PAIR + "1234567");
        String[] names = {"a", "ab", "abcd", "bc", "ABC", "abd", PAIR, PAIR + "123456", PAIR + "1234568", "\u00e9"};
        for (String name : names) {
            notFound(clock, name);
        }
        Check.type(clock, PAIR + "1234567");
        Check.is("the name itself", 1, clock.findParty());
        clock.undo();
        notFound(clock, PAIR + "1234567");
    }

    private static void noNameIsNotFound() {
        TollClock clock = Check.withParties("abc", "12345678");
        String[] texts = {"", "123456789", "abc\ud83d", "\ude00abc", "\ud83d"};
        for (String text : texts) {
            notFound(clock, text);
        }
    }

    private static void notFound(TollClock clock, String text) {
        Check.type(clock, text);
        Check.fails("find " + text, NoSuchElementException.class, clock::findParty);
    }

    private static void partiesFromNoneToEight() {
        TollClock clock = new TollClock();
        Check.is("none", 0, clock.parties());
        for (int count = 1; count <= 8; count++) {
            Check.party(clock, "p" + count);
            Check.is("parties", count, clock.parties());
        }
        Check.fails("ninth", IllegalStateException.class, () -> Check.party(clock, "p9"));
        Check.is("still eight", 8, clock.parties());
    }

    private static void shortestAndLongestName() {
        TollClock clock = Check.withParties("a", "12345678", PAIR, EIGHT_PAIRS);
        Check.is("one character", 1, clock.nameLength(0));
        Check.is("eight characters", 8, clock.nameLength(1));
        Check.is("one pair", 1, clock.nameLength(2));
        Check.is("eight pairs", 8, clock.nameLength(3));
    }

    private static void noParty(OfParty call) {
        TollClock clock = new TollClock();
        Edges.noIndex("party of none", 0, party -> call.answer(clock, party));
        for (int count = 1; count <= 8; count++) {
            int parties = count;
            Check.party(clock, "p" + count);
            Check.fails("party " + parties, IndexOutOfBoundsException.class, () -> call.answer(clock, parties));
        }
        Edges.noIndex("party of eight", 8, party -> call.answer(clock, party));
        call.answer(clock, 7);
        clock.undo();
        Check.fails("an undone party", IndexOutOfBoundsException.class, () -> call.answer(clock, 7));
    }

    private static void firstAndLastCodePoint() {
        TollClock clock = Check.withParties("abcdefgh", EIGHT_PAIRS, "z");
        Check.is("first", (int) 'a', clock.nameCodePoint(0, 0));
        Check.is("last", (int) 'h', clock.nameCodePoint(0, 7));
        Check.is("first pair", 0x10000, clock.nameCodePoint(1, 0));
        Check.is("last low half", 0x103FF, clock.nameCodePoint(1, 1));
        Check.is("last high half", 0x10FC00, clock.nameCodePoint(1, 2));
        Check.is("last code point of all", 0x10FFFF, clock.nameCodePoint(1, 3));
        Check.is("last pair", 0x1F600, clock.nameCodePoint(1, 7));
        Check.is("only one", (int) 'z', clock.nameCodePoint(2, 0));
    }

    private static void noCodePoint() {
        TollClock clock = Check.withParties("a", "12345678", EIGHT_PAIRS, "abc");
        int[] lengths = {1, 8, 8, 3};
        for (int party = 0; party < lengths.length; party++) {
            int number = party;
            Edges.noIndex("code point of " + party, lengths[party], index -> clock.nameCodePoint(number, index));
        }
    }

    private static void reversedNameReplacesTheLine() {
        TollClock clock = Check.withParties("abcdefgh", "z");
        checkLine(clock, 0, "hgfedcba");
        checkLine(clock, 1, "z");
        checkLine(clock, 0, "hgfedcba");
        clock.serve(0, 0, 'p');
        clock.writeDeadline(0);
        checkLine(clock, 1, "z");
    }

    private static void pairsAreNotReversed() {
        TollClock clock = Check.withParties(PAIR, EIGHT_PAIRS, "a" + PAIR + "b\ud800\udc00", "\ud7ff\udbff\udfff\ue000",
                "\uffff\ud800\udc00\ufffe");
        checkLine(clock, 0, PAIR);
        checkLine(clock, 1, PAIR + PAIR + PAIR + PAIR + "\udbff\udfff\udbff\udc00\ud800\udfff\ud800\udc00");
        checkLine(clock, 2, "\ud800\udc00b" + PAIR + "a");
        checkLine(clock, 3, "\ue000\udbff\udfff\ud7ff");
        checkLine(clock, 4, "\ufffe\ud800\udc00\uffff");
    }

    private static void checkLine(TollClock clock, int party, String want) {
        Check.is("length of the line", want.length(), clock.writeNameReversed(party));
        Check.is("line", want, Check.line(clock, want.length()));
    }

    private static void refusedWritingKeepsTheLine() {
        TollClock clock = Check.withParties("abc");
        clock.writeNameReversed(0);
        Check.fails("party 1", IndexOutOfBoundsException.class, () -> clock.writeNameReversed(1));
        Check.is("line", "cba", Check.line(clock, 3));
    }
}
