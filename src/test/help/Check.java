import java.io.IOException;
import java.io.UncheckedIOException;
import java.nio.file.Files;
import java.nio.file.Path;
import java.util.BitSet;
import java.util.Map;
import java.util.TreeMap;
import java.util.function.IntToLongFunction;
import java.util.regex.Matcher;
import java.util.regex.Pattern;

/** What the tests of single sentences share: the document's words, and answers that are due. */
final class Check {
    static final int BAD = -1, STATE = -2, FULL = -3, NONE = -4;
    static final int LEAST = Integer.MIN_VALUE, MOST = Integer.MAX_VALUE;
    /** The section of the document that is no promise. */
    static final int TERMS = 0;

    private static final Map<Integer, String> document = readDocument();
    private static final Map<Integer, BitSet> quoted = new TreeMap<>();
    private static String sentence = "";
    private static int wrong = 0;
    private static int asked = 0;

    private Check() {
    }

    private static Map<Integer, String> readDocument() {
        try {
            return sections(Files.readString(Path.of("../shared/DOC.md")));
        } catch (IOException e) {
            throw new UncheckedIOException(e);
        }
    }

    private static Map<Integer, String> sections(String text) {
        Map<Integer, String> sections = new TreeMap<>();
        for (String part : text.split("\n## ")) {
            Matcher promise = Pattern.compile("Promise (\\d+): .*").matcher(part.split("\n")[0]);
            String body = part.substring(part.indexOf('\n') + 1).replaceAll("\\s+", " ");
            if (promise.matches()) {
                // What stands behind the signature.
                sections.put(Integer.parseInt(promise.group(1)), body.substring(body.indexOf("`: ") + 3));
            } else if (part.startsWith("Terms")) {
                sections.put(TERMS, body);
            }
        }
        return sections;
    }

    /** The words of the document that the next answers are about. */
    static void sentence(int section, String words) {
        sentence = (section == TERMS ? "terms" : "promise " + section) + ", '" + words + "'";
        String text = document.getOrDefault(section, "");
        int at = text.indexOf(words);
        if (at < 0) {
            fail("the document has no such words");
            return;
        }
        BitSet covered = quoted.computeIfAbsent(section, none -> new BitSet());
        for (; at >= 0; at = text.indexOf(words, at + 1)) {
            covered.set(at, at + words.length());
        }
    }

    static void due(String call, long got, long want) {
        asked++;
        if (got != want) {
            fail(call + " answered " + got + ", due is " + want);
        }
    }

    static void fail(String what) {
        wrong++;
        System.out.println(sentence + ": " + what);
    }

    /** The last number that is taken and the first that is refused, on either side. */
    static void taken(String call, IntToLongFunction answer, int least, long atLeast, int most, long atMost) {
        due(call + " with " + least, answer.applyAsLong(least), atLeast);
        due(call + " with " + most, answer.applyAsLong(most), atMost);
        for (int v : new int[] {least - 1, most + 1, LEAST, MOST}) {
            due(call + " with " + v, answer.applyAsLong(v), BAD);
        }
    }

    static void feedAll(FlyWheels x, String text) {
        for (int i = 0; i < text.length(); i++) {
            if (x.feed(text.charAt(i)) < 0) {
                fail("a byte was refused of " + text);
            }
        }
    }

    static int tell(FlyWheels x, String text) {
        feedAll(x, text);
        return x.text();
    }

    static FlyWheels told(String text) {
        FlyWheels x = new FlyWheels();
        if (tell(x, text) < 0) {
            fail("the text was refused: " + text);
        }
        return x;
    }

    /** Every word of these sections that names a bound must stand in a sentence that was asked about. */
    static void allQuoted(int from, int to, String bounds) {
        for (int section = from; section <= to; section++) {
            sentence = section == TERMS ? "terms" : "promise " + section;
            BitSet covered = quoted.getOrDefault(section, new BitSet());
            if (covered.isEmpty()) {
                fail("no sentence of it has a test");
            }
            String text = document.getOrDefault(section, "");
            Matcher bound = Pattern.compile(bounds).matcher(text);
            while (bound.find()) {
                if (covered.nextClearBit(bound.start()) < bound.end()) {
                    fail("no test of '" + bound.group() + "' in '.. "
                        + text.substring(Math.max(0, bound.start() - 40), bound.end()) + "'");
                }
            }
        }
    }

    static void end(String name) {
        System.out.println(name + ": " + (wrong == 0 ? asked + " answers are as due" : wrong + " are not as due"));
        if (wrong != 0) {
            System.exit(1);
        }
    }
}
