import java.io.IOException;
import java.nio.file.Files;
import java.nio.file.Path;
import java.util.Arrays;
import java.util.regex.Matcher;
import java.util.regex.Pattern;

/** The document: a test names the sentence that it stands for, and at the end no word may be left that none named. */
final class Doc {
    private static final String ALL = load();
    private static final boolean[] NAMED = new boolean[ALL.length()];

    private Doc() {
    }

    private static String load() {
        try {
            return Files.readString(Path.of("../shared/DOC.md")).replaceAll("\\s+", " ");
        } catch (IOException e) {
            throw new IllegalStateException("the document is not there", e);
        }
    }

    /** Of "What it is". */
    static void about(String words) {
        name("## What it is", "## The public face", words);
    }

    /** Of "Terms": the text, and the parts II, III and IV. */
    static void term(String words) {
        name("## Terms", "## Promise 1:", words);
    }

    static void promise(int n, String words) {
        name("## Promise " + n + ":", n < 34 ? "## Promise " + (n + 1) + ":" : "## Not promised", words);
    }

    private static void name(String from, String to, String words) {
        int start = ALL.indexOf(words, ALL.indexOf(from));
        boolean says = start >= 0 && start + words.length() <= ALL.indexOf(to);
        Check.sentence(words);
        Check.due("the document says it below " + from, says, true);
        if (says) {
            Arrays.fill(NAMED, start, start + words.length(), true);
        }
    }

    /** Heads, faces of calls and numbers of parts are no sentences. */
    static void noneIsLeft() {
        skip("## Terms|```(text)?|==== [IV]+\\.|## Promise \\d+: [A-Za-z ]+ (?=`)|`[^`]+`:");
        Check.sentence("all sentences");
        Matcher word = Pattern.compile("[A-Za-z0-9]+").matcher(ALL);
        word.region(ALL.indexOf("## Terms"), ALL.indexOf("## Not promised"));
        while (word.find()) {
            if (!NAMED[word.start()]) {
                int end = Math.min(ALL.length(), word.start() + 60);
                Check.due("a word that no test names: " + ALL.substring(word.start(), end), 0, 1);
            }
        }
    }

    private static void skip(String pattern) {
        Matcher m = Pattern.compile(pattern).matcher(ALL);
        while (m.find()) {
            Arrays.fill(NAMED, m.start(), m.end(), true);
        }
    }
}
