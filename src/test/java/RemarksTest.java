import java.io.IOException;
import java.nio.file.Files;
import java.nio.file.Path;
import java.util.ArrayList;
import java.util.List;
import java.util.Map;
import java.util.TreeMap;
import java.util.regex.Matcher;
import java.util.regex.Pattern;

/** Each test of the bounds says to the letter which sentence it holds the class to, and no sentence is left out. */
public final class RemarksTest {
    private static final Pattern TEST = Pattern.compile("(/\\*\\*(?:(?!\\*/).)*\\*/)?\\s*\\n    static void (\\w+)\\(\\)", Pattern.DOTALL);
    private static final Pattern QUOTE = Pattern.compile("Promise (\\d+)(?:, by ([^:\"]+))?: \"([^\"]+)\"");
    private static final String[] FILES = {"TextBoundsTest", "TreeBoundsTest", "CallBoundsTest"};

    private RemarksTest() {
    }

    public static void main(String[] args) throws IOException {
        Path shared = Path.of(System.getProperty("shared", "../shared"));
        Path project = Path.of(System.getProperty("project", "."));
        Map<String, String> sections = sections(Files.readString(shared.resolve("DOC.md")));
        Map<String, boolean[]> covered = new TreeMap<>();
        sections.forEach((name, text) -> covered.put(name, new boolean[text.length()]));
        for (String file : FILES) {
            remarks(Files.readString(project.resolve("src/test/java/" + file + ".java")), sections, covered);
        }
        for (String name : sections.keySet()) {
            if (name.startsWith("Promise ") || name.equals("Terms")) {
                leftOut(name, sections.get(name), covered.get(name));
            }
        }
        Check.end();
    }

    private static String plain(String text) {
        return text.replaceAll("\\s+", " ").trim();
    }

    /** The sections by their headings; of a promise, what is behind the method's line. */
    private static Map<String, String> sections(String doc) {
        Map<String, String> sections = new TreeMap<>();
        for (String part : doc.split("\\n## ")) {
            String heading = part.substring(0, part.indexOf('\n')).trim();
            String body = plain(part.substring(part.indexOf('\n')).replaceAll("```\\w*|==== \\d\\.", " "));
            if (heading.startsWith("Promise ")) {
                heading = heading.substring(0, heading.indexOf(':'));
                body = body.substring(body.indexOf("`: ") + 3);
            }
            sections.put(heading, body);
        }
        return sections;
    }

    private static void remarks(String source, Map<String, String> sections, Map<String, boolean[]> covered) {
        Matcher test = TEST.matcher(source);
        while (test.find()) {
            String remark = test.group(1) == null ? "" : plain(test.group(1).replaceAll("\\n\\s*\\*", " "));
            Matcher quote = QUOTE.matcher(remark);
            int quotes = 0;
            while (quote.find()) {
                String section = quote.group(2) == null ? "Promise " + quote.group(1) : quote.group(2);
                int promise = Integer.parseInt(quote.group(1));
                Check.is(test.group(2) + ": promise " + promise, promise >= 1 && promise <= 40, true);
                mark(test.group(2), section, quote.group(3), sections, covered);
                quotes++;
            }
            Check.is(test.group(2) + " says its sentence", quotes > 0, true);
        }
    }

    private static void mark(String test, String section, String sentence, Map<String, String> sections, Map<String, boolean[]> covered) {
        String text = sections.getOrDefault(section, "");
        int at = text.indexOf(sentence);
        Check.is(test + ": '" + sentence + "' stands in '" + section + "'", at >= 0, true);
        for (int i = Math.max(at, 0); at >= 0 && i < at + sentence.length(); i++) {
            covered.get(section)[i] = true;
        }
    }

    /** What no remark tells, but for signs between two sentences. */
    private static void leftOut(String name, String text, boolean[] covered) {
        List<String> missing = new ArrayList<>();
        StringBuilder run = new StringBuilder();
        for (int i = 0; i <= text.length(); i++) {
            if (i < text.length() && !covered[i]) {
                run.append(text.charAt(i));
                continue;
            }
            if (run.toString().matches(".*[A-Za-z0-9].*")) {
                missing.add(run.toString());
            }
            run.setLength(0);
        }
        for (String m : missing) {
            Check.is(name + ": a test says '" + m + "'", false, true);
        }
    }
}
