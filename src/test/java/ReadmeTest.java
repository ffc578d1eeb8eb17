import java.io.IOException;
import java.io.UncheckedIOException;
import java.lang.reflect.Method;
import java.lang.reflect.Modifier;
import java.nio.file.Files;
import java.nio.file.Path;
import java.util.NoSuchElementException;

/** What README.md says: its example answers as its comments tell, and it leaves no call out. */
public final class ReadmeTest {
    private static final String[] EXAMPLE = readExample();
    // The line that is looked at next; the first two open the example and make the docket.
    private static int at = 2;

    public static void main(String[] args) throws Exception {
        exampleAnswersAsItSays();
        programIsExecuted();
        everyCallIsNamed();
        Check.end();
    }

    /** The comment behind each call of the example begins with its answer. */
    private static void exampleAnswersAsItSays() {
        TollClock docket = new TollClock();
        says("docket.type('A');", docket.type('A'));
        says("int party = docket.addParty();", docket.addParty());
        says("int paper = docket.serve(party, 1, 'm');", docket.serve(0, 1, 'm'));
        says("docket.due(paper);", docket.due(0));
        says("docket.advance(5);", docket.advance(5));
        says("docket.daysLeft(paper);", docket.daysLeft(0));
        says("int stay = docket.stayAll(0b10);", docket.stayAll(0b10));
        says("docket.due(paper);", "NoSuchElementException");
        Check.fails("due while the stay is in force", NoSuchElementException.class, () -> docket.due(0));
        says("docket.advance(7);", docket.advance(7));
        says("docket.lift(stay);", docket.lift(0));
        says("docket.due(paper);", docket.due(0));
        says("docket.undo();", docket.undo());
        says("```", "");
        Check.is("stays in force after undo", 1, docket.staysInForce());
    }

    private static void says(String call, Object answer) {
        String[] halves = EXAMPLE[at].split(" *// *");
        Check.is("line " + at + " of the example", call, halves[0]);
        Check.is(call + " in README.md", String.valueOf(answer), halves.length < 2 ? "" : halves[1].split("[ ,:]")[0]);
        at++;
    }

    private static String[] readExample() {
        try {
            String readme = Files.readString(Path.of("README.md"));
            return readme.substring(readme.indexOf("```java")).split("\n");
        } catch (IOException thrown) {
            throw new UncheckedIOException(thrown);
        }
    }

    private static void programIsExecuted() {
        TollClock docket = Check.withParties("A");
        Check.is("run", 3, Check.run(docket, "serve 0 2 m;day 12;more 0 7"));
        Check.is("today", 12, docket.today());
        Check.is("extensionDays", 7, docket.extensionDays(0));
    }

    private static void everyCallIsNamed() throws Exception {
        String readme = Files.readString(Path.of("README.md"));
        for (Method method : TollClock.class.getDeclaredMethods()) {
            String name = method.getName();
            if (Modifier.isPublic(method.getModifiers())) {
                String twin = name.replace("ByMarking", "");
                Check.is("README.md names " + name, true, readme.contains("`" + twin + "`"));
            }
        }
    }
}
