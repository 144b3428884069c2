import java.io.IOException;
import java.nio.charset.StandardCharsets;
import java.nio.file.Files;
import java.nio.file.Path;
import java.util.ArrayList;
import java.util.BitSet;
import java.util.List;
import java.util.regex.Matcher;
import java.util.regex.Pattern;
import java.util.stream.Stream;

/**
 * What the tests say that they hold: each sentence stands so in the document, where its promise or the Terms do; each
 * word of the document that names a boundary stands in some sentence that a test of boundaries holds; and TermsTest and
 * PromisesTest hold the Terms and the promises whole.
 */
public final class SentencesTest {
    private static final Path DOCUMENT = Path.of("../shared/DOC.md");
    private static final Path TESTS = Path.of("src/test/java");
    private static final int PROMISES = 41;

    private static final Pattern SAYS = Pattern.compile(
        "says\\((\\d+),\\s*((?:\"(?:[^\"\\\\]|\\\\.)*\"|\\w+)(?:\\s*\\+\\s*\"(?:[^\"\\\\]|\\\\.)*\")*)\\)");
    private static final Pattern PIECE = Pattern.compile("\"((?:[^\"\\\\]|\\\\.)*)\"");
    private static final Pattern NAMED = Pattern.compile("static final String (\\w+) = \"([^\"]*)\"");

    /** In a promise: its refusals, and every number. */
    private static final Pattern IN_PROMISE = Pattern.compile(
        "\\b(?:NONE|BAD|STATE|FULL|NOTHING|CAST|PLACE|SIZE|NO)\\b|-?\\b\\d+\\b");
    /** In the Terms: what ends, is too little or too much, the least or the first, none, round, or wraps. */
    private static final Pattern IN_TERMS = Pattern.compile(
        "\\.\\.|at most|-5|-9\\b|\\bNO\\b|if less|if more|\\bends?\\b|\\bleast\\b|\\bfewest\\b|the first\\b|first 20"
        + "|wrapping|\\bnone\\b|no HOLES?|nothing|below 0|within 4|or less|own square|newest|(?<=-1)[1-4]\\b");

    private static final Pattern WORD = Pattern.compile("\\S+");
    /** What stands in the Terms and is not said by them. */
    private static final Pattern MARKS = Pattern.compile("## Terms|==== \\d|```(?:text)?");

    private record Said(String test, int promise, String sentence) { }

    private static int wrong = 0;

    public static void main(String[] args) throws IOException {
        if (!Files.isReadable(DOCUMENT)) {
            System.out.println("no document to compare with");
            return;
        }
        String document = oneLine(Files.readString(DOCUMENT, StandardCharsets.UTF_8));
        List<Said> said = new ArrayList<>();
        try (Stream<Path> tests = Files.list(TESTS)) {
            for (Path test : tests.sorted().toList()) {
                if (test.toString().endsWith("Test.java") && !test.endsWith("SentencesTest.java")) {
                    String name = test.getFileName().toString().replace(".java", "");
                    collect(name, Files.readString(test, StandardCharsets.UTF_8), said);
                }
            }
        }
        int ahead = document.indexOf("## Promise 1:");
        String general = document.substring(0, ahead);
        String terms = section(general, "## Terms", "The constants:");
        List<Said> parts = said.stream().filter(one -> !isWhole(one)).toList();
        List<Said> wholes = said.stream().filter(SentencesTest::isWhole).toList();
        for (int promise = 1; promise <= PROMISES; promise++) {
            String section = section(document, promise);
            lookAtPromise(section, general, promise, said);
            lookFor(IN_PROMISE, section, inPromise(section), heldBy(parts, promise, section), "promise " + promise);
            lookFor(WORD, section, inPromise(section), heldBy(wholes, promise, section), "promise " + promise);
        }
        lookFor(IN_TERMS, terms, 0, heldBy(parts, 0, terms), "the Terms");
        BitSet held = heldBy(wholes, 0, terms);
        MARKS.matcher(terms).results().forEach(mark -> held.set(mark.start(), mark.end()));
        lookFor(WORD, terms, 0, held, "the Terms");
        System.out.println(said.size() + " sentences that tests hold, " + wrong + " wrong");
        if (wrong != 0 || said.isEmpty()) {
            System.exit(1);
        }
    }

    private static String oneLine(String text) {
        return text.replaceAll("\\s+", " ");
    }

    private static String section(String document, int promise) {
        String next = promise == PROMISES ? "## Not promised" : "## Promise " + (promise + 1) + ":";
        return section(document, "## Promise " + promise + ":", next);
    }

    private static String section(String document, String from, String to) {
        int start = document.indexOf(from);
        int end = document.indexOf(to, start);
        if (start < 0 || end < 0) {
            throw new IllegalStateException(from + " .. " + to);
        }
        return document.substring(start, end);
    }

    private static void collect(String test, String source, List<Said> said) {
        Matcher says = SAYS.matcher(source);
        while (says.find()) {
            StringBuilder sentence = new StringBuilder();
            Matcher piece = PIECE.matcher(says.group(2));
            while (piece.find()) {
                sentence.append(piece.group(1));
            }
            Matcher named = NAMED.matcher(source);
            while (named.find()) {
                if (says.group(2).equals(named.group(1))) {
                    sentence.append(named.group(2));
                }
            }
            said.add(new Said(test, Integer.parseInt(says.group(1)), sentence.toString()));
        }
    }

    private static void tell(String what) {
        wrong++;
        System.out.println(what);
    }

    private static boolean isWhole(Said said) {
        return said.test().equals("TermsTest") || said.test().equals("PromisesTest");
    }

    /** Where a promise begins, behind the call's own name and types. */
    private static int inPromise(String section) {
        return section.indexOf(")`:") + 3;
    }

    private static void lookAtPromise(String section, String general, int promise, List<Said> said) {
        int many = 0;
        for (Said s : said) {
            if (s.promise() == promise) {
                many++;
                boolean here = hold(section, s.sentence(), new BitSet());
                if (s.sentence().isEmpty() || !here && !general.contains(s.sentence())) {
                    tell("promise " + promise + " does not say \"" + s.sentence() + "\"");
                }
            }
        }
        if (many == 0) {
            tell("no test holds a sentence of promise " + promise);
        }
    }

    /** What of a section stands in sentences of this promise; of any promise, if it is 0. */
    private static BitSet heldBy(List<Said> said, int promise, String section) {
        BitSet held = new BitSet();
        for (Said s : said) {
            if (promise == 0 || s.promise() == promise) {
                hold(section, s.sentence(), held);
            }
        }
        return held;
    }

    /** Marks where the sentence stands; whether it does. */
    private static boolean hold(String section, String sentence, BitSet held) {
        boolean found = false;
        int at = sentence.isEmpty() ? -1 : section.indexOf(sentence);
        while (at >= 0) {
            found = true;
            held.set(at, at + sentence.length());
            at = section.indexOf(sentence, at + 1);
        }
        return found;
    }

    private static void lookFor(Pattern words, String section, int from, BitSet held, String where) {
        Matcher m = words.matcher(section);
        m.region(Math.max(from, 0), section.length());
        while (m.find()) {
            if (held.nextClearBit(m.start()) < m.end()) {
                int near = Math.max(0, m.start() - 60);
                tell(where + ": no test holds \"" + m.group() + "\" of \"" + section.substring(near, m.end()) + "\"");
            }
        }
    }
}
