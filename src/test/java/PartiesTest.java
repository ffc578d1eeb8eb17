import java.util.NoSuchElementException;

/** Promises 1 to 8: the new object, the text buffer and the parties. */
public final class PartiesTest {
    public static void main(String[] args) {
        promise1NewObject();
        promise2Type();
        promise3AddParty();
        promise3NamesOfSurrogates();
        promise4FindParty();
        promise5Parties();
        promise6NameLength();
        promise7NameCodePoint();
        promise8WriteNameReversed();
        Check.end();
    }

    private static void promise1NewObject() {
        TollClock clock = new TollClock();
        Check.is("parties of a new object", 0, clock.parties());
        Check.is("today of a new object", 0, clock.today());
        Check.is("deadlines of a new object", 0, clock.deadlines());
        Check.is("stays of a new object", 0, clock.staysInForce());
        Check.is("court days of a new object", 3572, clock.courtDays(0, 4999));
        Check.is("overdue of a new object", 0, clock.overdue());
        Check.is("consistency of a new object", true, clock.isConsistent());
        Check.fails("line of a new object", IndexOutOfBoundsException.class, () -> clock.charAt(0));
        Check.fails("no occurrence", IndexOutOfBoundsException.class, () -> clock.barDay(0));
        Check.fails("no claim", IndexOutOfBoundsException.class, () -> clock.effectiveDay(0));
        Check.fails("no stay", IndexOutOfBoundsException.class, () -> clock.lift(0));
        Check.fails("no change", IllegalStateException.class, clock::undo);
        Check.is("first holiday", 1, clock.addHoliday(3));
    }

    private static void promise2Type() {
        TollClock clock = new TollClock();
        for (int count = 1; count <= 60; count++) {
            Check.is("type " + count, count, clock.type((char) (count * 1000)));
        }
        Check.fails("type 61", IllegalStateException.class, () -> clock.type('a'));
        Check.fails("type 61 again", IllegalStateException.class, () -> clock.type('a'));
        Check.fails("60 characters are no name", IllegalArgumentException.class, clock::addParty);
        Check.is("type after emptying", 1, clock.type((char) 0xD800));
    }

    private static void promise3AddParty() {
        TollClock clock = new TollClock();
        Check.fails("empty name", IllegalArgumentException.class, clock::addParty);
        Check.is("first party", 0, Check.party(clock, "12345678"));
        Check.fails("nine code points", IllegalArgumentException.class,
                () -> Check.party(clock, "123456789"));
        Check.is("buffer after a refusal", 1, clock.type('x'));
        Check.is("party x", 1, clock.addParty());
        Check.is("buffer after a party", 1, clock.type('x'));
        Check.fails("same name", IllegalStateException.class, clock::addParty);
        Check.is("buffer after a same name", 1, clock.type((char) 0));
        Check.is("the code point 0", 2, clock.addParty());
        Check.is("a name that begins like another", 3, Check.party(clock, "1234567"));
        Check.is("other last code point", 4, Check.party(clock, "12345679"));
        Check.is("party 5", 5, Check.party(clock, "X"));
        Check.is("party 6", 6, Check.party(clock, "xx"));
        Check.is("party 7", 7, Check.party(clock, "\u00e9"));
        Check.fails("ninth party", IllegalStateException.class, () -> Check.party(clock, "new"));
        Check.fails("ninth party without a name", IllegalArgumentException.class, clock::addParty);
        Check.is("buffer after the ninth", 1, clock.type('n'));
        Check.is("parties", 8, clock.parties());
    }

    private static void promise3NamesOfSurrogates() {
        String[] wrongNames = {"\ud83d", "\ude00", "a\ud83d", "\ude00a", "\ud83da", "\ud83d\ud83d\ude00",
            "\ude00\ud83d", "\ud83d\ude00\ude00", "\udbff\ud800", "\ud800\ue000"};
        for (String name : wrongNames) {
            TollClock clock = new TollClock();
            Check.fails("halves of pairs", IllegalArgumentException.class, () -> Check.party(clock, name));
            Check.is("buffer after halves", 1, clock.type('a'));
        }
        TollClock clock = new TollClock();
        String four = "\ud800\udc00\udbff\udfff\ud83d\ude00\ud800\udfff";
        Check.is("eight pairs", 0, Check.party(clock, four + four));
        Check.is("length of eight pairs", 8, clock.nameLength(0));
        Check.fails("eight pairs and one", IllegalArgumentException.class,
                () -> Check.party(clock, four + four + "a"));
        Check.is("code points beside the surrogates", 1, Check.party(clock, "\ud7ff\ue000\uffff"));
    }

    private static void promise4FindParty() {
        TollClock clock = Check.withParties("ab", "abc", "\ud83d\ude00");
        Check.type(clock, "abc");
        Check.is("find abc", 1, clock.findParty());
        Check.is("buffer after finding", 1, clock.type('a'));
        Check.fails("find a", NoSuchElementException.class, clock::findParty);
        Check.is("buffer after not finding", 1, clock.type('a'));
        Check.type(clock, "b");
        Check.is("find ab", 0, clock.findParty());
        Check.type(clock, "\ud83d\ude00");
        Check.is("find a pair", 2, clock.findParty());
        Check.type(clock, "\ud83d");
        Check.fails("find half a pair", NoSuchElementException.class, clock::findParty);
        Check.fails("find nothing", NoSuchElementException.class, clock::findParty);
        Check.type(clock, "123456789");
        Check.fails("find nine", NoSuchElementException.class, clock::findParty);
        Check.type(clock, "AB");
        Check.fails("find AB", NoSuchElementException.class, clock::findParty);
        clock.undo();
        Check.type(clock, "\ud83d\ude00");
        Check.fails("find an undone party", NoSuchElementException.class, clock::findParty);
    }

    private static void promise5Parties() {
        TollClock clock = new TollClock();
        for (int count = 1; count <= 8; count++) {
            Check.party(clock, "p" + count);
            Check.is("parties", count, clock.parties());
        }
        clock.undo();
        Check.is("parties after undo", 7, clock.parties());
    }

    private static void promise6NameLength() {
        TollClock clock = Check.withParties("a", "12345678", "a\ud83d\ude00b");
        Check.is("length 0", 1, clock.nameLength(0));
        Check.is("length 1", 8, clock.nameLength(1));
        Check.is("length 2", 3, clock.nameLength(2));
        Check.fails("length 3", IndexOutOfBoundsException.class, () -> clock.nameLength(3));
        Check.fails("length -1", IndexOutOfBoundsException.class, () -> clock.nameLength(-1));
    }

    private static void promise7NameCodePoint() {
        TollClock clock = Check.withParties("xyz", "a\ud83d\ude00\udbff\udfff\uffff");
        Check.is("x", (int) 'x', clock.nameCodePoint(0, 0));
        Check.is("z", (int) 'z', clock.nameCodePoint(0, 2));
        Check.is("a", (int) 'a', clock.nameCodePoint(1, 0));
        Check.is("pair", 0x1F600, clock.nameCodePoint(1, 1));
        Check.is("last pair", 0x10FFFF, clock.nameCodePoint(1, 2));
        Check.is("last single", 0xFFFF, clock.nameCodePoint(1, 3));
        Check.fails("index 4", IndexOutOfBoundsException.class, () -> clock.nameCodePoint(1, 4));
        Check.fails("index 3", IndexOutOfBoundsException.class, () -> clock.nameCodePoint(0, 3));
        Check.fails("index -1", IndexOutOfBoundsException.class, () -> clock.nameCodePoint(1, -1));
        Check.fails("party 2", IndexOutOfBoundsException.class, () -> clock.nameCodePoint(2, 0));
        Check.fails("party -1", IndexOutOfBoundsException.class, () -> clock.nameCodePoint(-1, 0));
    }

    private static void promise8WriteNameReversed() {
        TollClock clock = Check.withParties("abc", "x\ud83d\ude00\udbff\udfff\uffff", "q");
        Check.is("length abc", 3, clock.writeNameReversed(0));
        Check.is("abc reversed", "cba", Check.line(clock, 3));
        Check.is("length of pairs", 6, clock.writeNameReversed(1));
        Check.is("pairs reversed", "\uffff\udbff\udfff\ud83d\ude00x", Check.line(clock, 6));
        Check.fails("party 3", IndexOutOfBoundsException.class, () -> clock.writeNameReversed(3));
        Check.fails("party -1", IndexOutOfBoundsException.class, () -> clock.writeNameReversed(-1));
        Check.is("line after a refusal", 'x', clock.charAt(5));
        Check.is("shorter line", 1, clock.writeNameReversed(2));
        Check.is("q", "q", Check.line(clock, 1));
        String eight = "\ud83d\ude00\ud83d\ude01\ud83d\ude02\ud83d\ude03\ud83d\ude04\ud83d\ude05\ud83d\ude06\ud83d\ude07";
        Check.party(clock, eight);
        Check.is("longest line", 16, clock.writeNameReversed(3));
        Check.is("longest reversed", new StringBuilder(eight).reverse().toString(), Check.line(clock, 16));
    }
}
