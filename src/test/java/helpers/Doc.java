import java.io.IOException;
import java.nio.file.Files;
import java.nio.file.Path;
import java.util.Arrays;
import java.util.LinkedHashMap;
import java.util.Map;
import java.util.regex.Matcher;
import java.util.regex.Pattern;

/**
 * The document's sentences, by its headings: a test names the one that it looks at, word by word,
 * so that a sentence which no test names is found, and so is a test of words that are not there.
 */
final class Doc {
    private static final Path PLACE = Path.of("../shared/DOC.md");
    private static final Pattern HEADING = Pattern.compile("(?m)^(?:## (.*)|([A-Z ]{4,}))$");
    private static final Map<String, String> SECTIONS = read();
    private static final Map<String, boolean[]> NAMED = new LinkedHashMap<>();

    private Doc() {
    }

    /** Names the sentence that the answers looked at from here on are due by. */
    static void says(String section, String words) {
        Due.by(section + ": " + words);
        Due.is("such words stand in the document", mark(section, words) ? 1 : 0, 1);
    }

    /** Words that demand nothing that a call could answer. */
    static void demandsNothing(String section, String words) {
        says(section, words);
    }

    /** Looks whether every word of the sections has been named. */
    static void isAllNamed(String... sections) {
        for (String section : sections) {
            Due.by(section);
            String text = textOf(section);
            Matcher code = Pattern.compile("`[^`]*`|- (?=`)").matcher(text);
            while (code.find()) {
                Arrays.fill(namedOf(section), code.start(), code.end(), true);
            }
            Due.is("words that no test names: " + unnamed(section), unnamed(section).isEmpty() ? 0 : 1, 0);
        }
    }

    private static Map<String, String> read() {
        String document;
        try {
            document = Files.readString(PLACE);
        } catch (IOException e) {
            throw new IllegalStateException(PLACE + " can't be read", e);
        }
        Map<String, String> sections = new LinkedHashMap<>();
        Matcher heading = HEADING.matcher(document);
        String name = "";
        int start = 0;
        while (heading.find()) {
            sections.put(name, document.substring(start, heading.start()).replaceAll("\\s+", " "));
            name = heading.group(1) == null ? heading.group(2) : heading.group(1).replaceAll("^(Promise \\d+):.*", "$1");
            start = heading.end();
        }
        sections.put(name, document.substring(start).replaceAll("\\s+", " "));
        return sections;
    }

    private static String textOf(String section) {
        return SECTIONS.getOrDefault(section, "");
    }

    private static boolean[] namedOf(String section) {
        return NAMED.computeIfAbsent(section, s -> new boolean[textOf(s).length()]);
    }

    private static boolean mark(String section, String words) {
        String text = textOf(section);
        boolean found = false;
        for (int at = text.indexOf(words); at >= 0; at = text.indexOf(words, at + 1)) {
            Arrays.fill(namedOf(section), at, at + words.length(), true);
            found = true;
        }
        return found;
    }

    private static String unnamed(String section) {
        StringBuilder left = new StringBuilder();
        String text = textOf(section);
        for (int i = 0; i < text.length(); i++) {
            boolean named = namedOf(section)[i];
            char last = left.length() == 0 ? '|' : left.charAt(left.length() - 1);
            if (!named && (Character.isLetterOrDigit(text.charAt(i)) || last != '|' && text.charAt(i) == ' ')) {
                left.append(text.charAt(i));
            } else if (named && last != '|') {
                left.append('|');
            }
        }
        return left.toString().replaceAll("[ |]+$", "");
    }
}
