import java.io.IOException;
import java.io.UncheckedIOException;
import java.nio.file.Files;
import java.nio.file.Path;
import java.util.ArrayList;
import java.util.HashMap;
import java.util.List;
import java.util.Map;
import java.util.regex.Pattern;

/**
 * What the tests of the boundary cases share. Each of them quotes the sentence of the document that
 * it tests, so that a boundary case without a test of its own is found.
 */
final class Edges {
    /** Far from every range, and numbers that come back into one where a product or a shift wraps around. */
    private static final int[] FAR = {Integer.MIN_VALUE, Integer.MIN_VALUE + 1, Integer.MAX_VALUE,
        Integer.MAX_VALUE - 1, 1 << 16, 1 << 28, 1 << 29, 1 << 30, -(1 << 16), -(1 << 29)};
    /** A sentence with one of these names a boundary case. */
    private static final Pattern BOUNDARY = Pattern.compile("\\d|\\b(also|at first|at least|at most|afterwards|all of"
            + "|Any|any|before|cannot|changes nothing|earlier|earliest|empty|exactly|included|including|initially"
            + "|itself|last|late|later|latest|listed first|lower|may be|none|not|only|otherwise|out of range|same"
            + "|still|without)\\b");
    private static final Map<String, String> SECTIONS = readSections();
    private static final Map<String, List<String>> QUOTES = new HashMap<>();

    interface OneNumber {
        Object answer(int number);
    }

    private Edges() {
    }

    static void test(int promise, String quote, Runnable test) {
        test("Promise " + promise, quote, test);
    }

    /** Runs the test of a sentence, or of the part of a sentence that is quoted. */
    static void test(String section, String quote, Runnable test) {
        String what = section + ", \"" + quote + "\"";
        Check.is(what + " is to be found in the document", true, SECTIONS.getOrDefault(section, "").contains(quote));
        QUOTES.computeIfAbsent(section, key -> new ArrayList<>()).add(quote);
        int wrongBefore = Check.wrong();
        try {
            test.run();
        } catch (RuntimeException thrown) {
            Check.is(what, "no exception", thrown.toString());
        }
        if (Check.wrong() != wrongBefore) {
            System.out.println("    that was of " + what);
        }
    }

    /** Every number but those from 0 to one less than a count must be refused as an index. */
    static void noIndex(String what, int count, OneNumber call) {
        refusedOutside(what, IndexOutOfBoundsException.class, 0, count - 1, call);
    }

    static void outOfRange(String what, int least, int most, OneNumber call) {
        refusedOutside(what, IllegalArgumentException.class, least, most, call);
    }

    static void outOfDays(String what, OneNumber call) {
        outOfRange(what, 0, 4999, call);
    }

    private static void refusedOutside(String what, Class<? extends RuntimeException> want, int least, int most,
            OneNumber call) {
        int[] near = {least - 1, most + 1, least - 2, most + 2};
        for (int number : near) {
            Check.fails(what + " " + number, want, () -> call.answer(number));
        }
        for (int number : FAR) {
            Check.fails(what + " " + number, want, () -> call.answer(number));
        }
    }

    /** A sentence that has one of the words of a boundary case and names none. */
    static void namesNone(String section, String quote) {
        test(section, quote, () -> { });
    }

    /** Each boundary case of these promises must have been quoted by a test. */
    static void allTested(int first, int last) {
        for (int promise = first; promise <= last; promise++) {
            allTested("Promise " + promise);
        }
    }

    static void allTested(String section) {
        for (String line : SECTIONS.getOrDefault(section, "").split("\n")) {
            if (line.startsWith("Throws ")) {
                conditionsTested(section, line.substring(line.indexOf(" if ") + 4));
            } else if (!line.startsWith("Ahead of the calls")) {
                sentencesTested(section, line);
            }
        }
    }

    private static void conditionsTested(String section, String conditions) {
        for (String condition : conditions.split(", or |, | or ")) {
            boolean tested = quotes(section).stream().anyMatch(quote -> quote.contains(condition));
            Check.is(section + ": a test of the refusal \"" + condition + "\"", true, tested);
        }
    }

    private static void sentencesTested(String section, String line) {
        // The name of a parameter, or the head of the method.
        String text = line.replaceFirst("^(- )?`[^`]*`: ", "");
        for (String sentence : text.split("(?<=[.]) (?=[A-Z])")) {
            if (BOUNDARY.matcher(sentence).find()) {
                boolean tested = quotes(section).stream().anyMatch(sentence::contains);
                Check.is(section + ": a test of \"" + sentence + "\"", true, tested);
            }
        }
    }

    private static List<String> quotes(String section) {
        return QUOTES.getOrDefault(section, List.of());
    }

    /** The text of each section by its name: "Terms", or "Promise 7" without what follows. */
    private static Map<String, String> readSections() {
        Map<String, String> sections = new HashMap<>();
        try {
            for (String section : Files.readString(Path.of("../shared/DOC.md")).split("(?m)^## ")) {
                String head = section.split("\n")[0];
                sections.put(head.split(":")[0], section.substring(head.length()));
            }
        } catch (IOException thrown) {
            throw new UncheckedIOException(thrown);
        }
        return sections;
    }
}
