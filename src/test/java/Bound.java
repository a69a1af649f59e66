import java.io.IOException;
import java.nio.file.Files;
import java.nio.file.Path;
import java.util.Set;
import java.util.TreeSet;

/**
 * The sentence of the document that a test is of, and the answers that it asks for just inside its
 * boundary, at it and just beyond it. A sentence that the document does not have is an error, too.
 */
final class Bound {
    private static final String DOC = squeezed(document());
    private static final Set<String> TOLD = new TreeSet<>();
    private static final Set<String> PARTS = new TreeSet<>();
    private static final Set<String> BROKEN = new TreeSet<>();
    private static String sentence = "";

    private Bound() {
    }

    private static String document() {
        try {
            return Files.readString(Path.of("../shared/DOC.md"));
        } catch (IOException e) {
            return "";
        }
    }

    private static String squeezed(String text) {
        return text.replaceAll("\\s+", " ");
    }

    /** What the document says between two of its marks. */
    private static String part(String from, String to) {
        int begin = DOC.indexOf(from);
        int end = DOC.indexOf(to, begin + from.length());
        return begin < 0 || end < 0 ? "" : DOC.substring(begin, end);
    }

    private static String section(String where) {
        switch (where) {
            case "What it is": return part("## What it is", "## The public face");
            case "Terms 1": return part("==== 1.", "==== 2.");
            case "Terms 2": return part("==== 2.", "==== 3.");
            case "Terms 3": return part("==== 3.", "A new TABLE has");
            case "Terms": return part("A new TABLE has", "## Promise 1:");
            default: return part("## " + where + ":", " ## ");
        }
    }

    /** The next answers are due by these words of that part of the document, if it can be read here. */
    static void of(String where, String words) {
        sentence = where + ": " + words;
        TOLD.add(sentence);
        PARTS.add(where);
        check("the document says so", true, DOC.isEmpty() || section(where).contains(words));
    }

    /** Numbers, texts and truths are compared as they are written. */
    private static void check(String call, Object want, Object got) {
        boolean same = String.valueOf(want).equals(String.valueOf(got));
        if (!same) {
            BROKEN.add(sentence);
        }
        Due.is(sentence + "\n  " + call + " answered " + got + ", due is " + want + "; as due", true, same);
    }

    static void in(String call, Object want, Object got) {
        check("just inside: " + call, want, got);
    }

    static void at(String call, Object want, Object got) {
        check("at: " + call, want, got);
    }

    static void beyond(String call, Object want, Object got) {
        check("just beyond: " + call, want, got);
    }

    /** What leads up to a boundary. */
    static void first(String call, Object want, Object got) {
        check("first: " + call, want, got);
    }

    /** What the latest text was answered with: a number, or its FAULT and the place of it. */
    static String read(CombTable x, int answer) {
        return answer >= 0 ? "" + answer : "FAULT " + x.fault() + " at " + (-1 - answer);
    }

    static String table(String text) {
        CombTable x = new CombTable();
        return read(x, Due.table(x, text));
    }

    static String talk(String table, String text) {
        CombTable x = Due.at(table);
        return read(x, Due.talk(x, text));
    }

    static String minutes(String table, String text) {
        CombTable x = Due.at(table);
        return read(x, Due.minutes(x, text));
    }

    static String sentence(String table, String text) {
        CombTable x = Due.at(table);
        return read(x, Due.sentence(x, text));
    }

    /** A new object with a TABLE and a TALK. */
    static CombTable at(String table, String talk) {
        CombTable x = Due.at(table);
        first("talk of " + talk, talk.chars().filter(c -> c == ';').count(), Due.talk(x, talk));
        return x;
    }

    static String times(String text, int n) {
        return text.repeat(n);
    }

    /** The text with blanks behind it. */
    static String padded(String text, int length) {
        return text + " ".repeat(length - text.length());
    }

    /** Each promise has a sentence with a test; the sentences that do not hold are told by name. */
    static void close(boolean telling) {
        for (int n = 1; n <= 38; n++) {
            Due.is("sentences of Promise " + n, true, PARTS.contains("Promise " + n));
        }
        for (String one : BROKEN) {
            System.out.println("broken: " + one);
        }
        for (String one : TOLD) {
            if (telling) {
                System.out.println("sentence: " + one);
            }
        }
    }
}
