import java.io.IOException;
import java.nio.file.Files;
import java.nio.file.Path;
import java.util.BitSet;
import java.util.LinkedHashMap;
import java.util.Map;
import java.util.regex.Matcher;
import java.util.regex.Pattern;

/**
 * The document's sentences: each check belongs to the sentence that was named ahead of it, and at the end all that was
 * named is held against ../shared/DOC.md, so that no sentence of its TERMS and promises goes without a check.
 */
final class Sentences {
    private static final Pattern PROMISE = Pattern.compile("(?ms)^## (Promise \\d+): .*?$\\n(.*?)(?=^## )");
    private static final Pattern TERM = Pattern.compile(
        "(?ms)^(?:([IV]+)\\. |  (RULES|FAULTS|SLOTS)\\b)(.*?)(?=^[IV]+\\. |^  (?:RULES|FAULTS|SLOTS)\\b|^```|\\z)");

    private final String name;
    private final boolean listed;
    private final Map<String, String> sections = new LinkedHashMap<>();
    private final Map<String, BitSet> named = new LinkedHashMap<>();
    private String sentence = "";
    private int sentences = 0;
    private int checks = 0;
    private int asked = 0;
    private int wrong = 0;

    /** If listed, each sentence is printed as it is named. */
    Sentences(String name, Path document, boolean listed) throws IOException {
        this.name = name;
        this.listed = listed;
        String text = Files.readString(document);
        Matcher promise = PROMISE.matcher(text);
        while (promise.find()) {
            // The signature ahead of the promise's words is the face, which LanguageTest looks at.
            addSection(promise.group(1), promise.group(2).trim().replaceFirst("^`[^`]*`:", ""));
        }
        Matcher term = TERM.matcher(part(text, "## Terms", "## Promise 1:"));
        while (term.find()) {
            boolean numbered = term.group(1) != null;
            addSection(term.group(numbered ? 1 : 2), (numbered ? "" : term.group(2)) + term.group(3));
        }
        addSection("What it is", part(text, "## What it is", "## The public face"));
    }

    private static String part(String text, String from, String to) {
        int start = text.indexOf(from) + from.length();
        return text.substring(start, text.indexOf(to, start));
    }

    private void addSection(String where, String text) {
        sections.put(where, text.replaceAll("\\s+", " ").trim());
        named.put(where, new BitSet());
    }

    /** Names the sentence, or the part of one, that the checks behind this are about. */
    void of(String where, String quote) {
        endSentence();
        sentence = where + " \"" + quote + "\"";
        sentences++;
        if (listed) {
            System.out.println(sentence);
        }
        String text = sections.getOrDefault(where, "");
        int at = text.indexOf(quote);
        if (at < 0) {
            complain("the document has no such sentence");
        }
        for (; at >= 0; at = text.indexOf(quote, at + 1)) {
            named.get(where).set(at, at + quote.length());
        }
    }

    private void endSentence() {
        if (!sentence.isEmpty() && checks == 0) {
            complain("nothing is checked of it");
        }
        checks = 0;
    }

    void is(String call, long got, long want) {
        checks++;
        asked++;
        if (got != want) {
            complain(call + " answered " + got + ", due is " + want);
        }
    }

    void are(String call, String got, String want) {
        checks++;
        asked++;
        if (!got.equals(want)) {
            complain(call + " answered [" + got + "], due is [" + want + "]");
        }
    }

    private void complain(String text) {
        wrong++;
        System.out.println(name + ": " + sentence + ": " + text);
    }

    /** What no test has named: signs between sentences aside, nothing may be left. */
    private void findUnnamed() {
        sections.forEach((where, text) -> {
            if (!where.equals("What it is")) {
                StringBuilder left = new StringBuilder();
                for (int i = 0; i < text.length(); i++) {
                    left.append(named.get(where).get(i) ? '_' : text.charAt(i));
                }
                sentence = where;
                is("letters and numbers left unnamed in \"" + left + "\"",
                    left.chars().filter(Character::isLetterOrDigit).count(), 0);
            }
        });
        is("promises and TERMS found", sections.size(), 37 + 7 + 3 + 1);
    }

    void end() {
        endSentence();
        findUnnamed();
        System.out.println(name + ": " + sentences + " sentences, " + (asked - wrong) + " passed, " + wrong + " failed");
        if (wrong != 0) {
            System.exit(1);
        }
    }

    /** Numbers that are none of 0 .. n - 1, the nearest and the farthest. */
    static int[] beyond(int n) {
        return new int[] {Integer.MIN_VALUE, -256, -2, -1, n, n + 1, n + 256, Integer.MAX_VALUE};
    }

    /** A book of one-letter WORDS in EDITION 0, thirty a LINE. */
    static WordPlaces ofLetters(String letters) {
        WordPlaces x = new WordPlaces();
        addLetters(x, 0, letters);
        return x;
    }

    static void addLetters(WordPlaces x, int edition, String letters) {
        for (int i = 0; i < letters.length(); i += 30) {
            Due.line(x, edition, String.join(" ", letters.substring(i, Math.min(letters.length(), i + 30)).split("")));
        }
    }

    /** WORD number i of many that are all unlike, by alphabet as by number. */
    static String unlike(int i) {
        return "" + (char) ('a' + i / 676 % 26) + (char) ('a' + i / 26 % 26) + (char) ('a' + i % 26);
    }

    /** A book that is full of FORMS: 300 in each EDITION, those with even numbers in EDITION 0. */
    static WordPlaces full() {
        WordPlaces x = new WordPlaces();
        for (int i = 0; i < 20; i++) {
            StringBuilder even = new StringBuilder();
            StringBuilder odd = new StringBuilder();
            for (int j = 0; j < 15; j++) {
                even.append(unlike(2 * (15 * i + j))).append(' ');
                odd.append(unlike(2 * (15 * i + j) + 1)).append(' ');
            }
            Due.line(x, 0, even.toString());
            Due.line(x, 1, odd.toString());
        }
        return x;
    }
}
