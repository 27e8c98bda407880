import java.io.IOException;
import java.nio.file.Files;
import java.nio.file.Path;
import java.util.ArrayList;
import java.util.List;
import java.util.regex.Matcher;
import java.util.regex.Pattern;

/** "The public face" of the document, line by line: each stands in the class, and nothing else does. */
public final class FaceTest {
    private static final Path DOCUMENT = Path.of("../shared/DOC.md");
    private static final Path SOURCE = Path.of("src/main/java/SometimesSums.java");
    private static final Pattern FACE = Pattern.compile("(?s)## The public face\\s+```java\n(.*?)\n```");
    private static final Pattern HEADLINE = Pattern.compile("Ahead of the calls (.*?) the interface says: (---- .*?)\\.\n");
    private static final Pattern PROMISE = Pattern.compile("## Promise \\d+: (?!A new object).*\n\n`(.*?)`:");
    private static final Pattern CONSTANT = Pattern.compile("`([A-Z_]+ = -\\d+)`");

    private FaceTest() {
    }

    public static void main(String[] args) throws IOException {
        String document = Files.readString(DOCUMENT);
        List<String> source = Files.readAllLines(SOURCE);
        List<String> face = face(document);
        Due.is("the head, the constants, the constructor and the methods", face.size(), 1 + 5 + 1 + 24);
        List<String> due = new ArrayList<>();
        for (String line : face) {
            due.add(line.replaceAll("\\);$", ") {"));
        }
        List<String> open = new ArrayList<>();
        for (String line : source) {
            if (line.matches("(    )?public .*")) {
                open.add(line);
            }
        }
        Due.same("the face", String.join("\n", open), String.join("\n", due));
        constants(document);
        Due.is("promised calls", missing(PROMISE, document, face, "    public ", ";"), 24);
        headlines(document, source);
        Due.end();
    }

    private static List<String> face(String document) {
        Matcher matcher = FACE.matcher(document);
        List<String> lines = new ArrayList<>();
        if (matcher.find()) {
            for (String line : matcher.group(1).split("\n")) {
                if (!line.equals("}")) {
                    lines.add(line);
                }
            }
        }
        return lines;
    }

    /** Answers how many were found; each that is no line of the face is printed. */
    private static int missing(Pattern pattern, String document, List<String> face, String before, String behind) {
        Matcher matcher = pattern.matcher(document);
        int found = 0;
        while (matcher.find()) {
            found++;
            Due.is(matcher.group(1) + " stands in the face", face.contains(before + matcher.group(1) + behind) ? 1 : 0, 1);
        }
        return found;
    }

    private static void constants(String document) {
        Due.is("constants told", missing(CONSTANT, document, face(document), "    public static final int ", ";"), 5);
        Due.is("UNKNOWN", SometimesSums.UNKNOWN, -1);
        Due.is("BAD_VALUE", SometimesSums.BAD_VALUE, -2);
        Due.is("FULL", SometimesSums.FULL, -3);
        Due.is("NOT_POSSIBLE", SometimesSums.NOT_POSSIBLE, -4);
        Due.is("NONE", SometimesSums.NONE, -5);
    }

    /** The class is read under the same headlines as the document's interface. */
    private static void headlines(String document, List<String> source) {
        Matcher matcher = HEADLINE.matcher(document);
        int found = 0;
        while (matcher.find()) {
            found++;
            String headline = "    // " + matcher.group(2);
            for (String call : matcher.group(1).replace("`", "").split(", ")) {
                Due.same("the headline ahead of " + call, headlineOf(call, source), headline);
            }
        }
        Due.is("headlines", found, 6);
    }

    private static String headlineOf(String call, List<String> source) {
        String headline = "";
        for (String line : source) {
            if (line.startsWith("    // ----")) {
                headline = line;
            }
            if (line.startsWith("    public int " + call + "(")) {
                return headline;
            }
        }
        return "no such call";
    }
}
