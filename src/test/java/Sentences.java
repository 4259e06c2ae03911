import java.io.IOException;
import java.nio.file.Files;
import java.nio.file.Path;
import java.util.LinkedHashMap;
import java.util.Map;
import java.util.regex.Matcher;
import java.util.regex.Pattern;

/**
 * Tests that each stand for one sentence of the document. A sentence that the document does not have is a fault, and so
 * is one that no test stands for: all under a heading of the terms, and each "Returns" and "Throws" of a promise.
 */
final class Sentences {
    interface Test {
        void run(Check check);
    }

    private static final Path DOCUMENT = Path.of("../shared/DOC.md");
    private static final Pattern HEADING = Pattern.compile("## (Promise \\d+):.*|## (.*)|<h2>(.*)</h2>");

    private final Check check = new Check();
    private final Map<String, String> untested = new LinkedHashMap<>();

    Sentences(String... headings) throws IOException {
        Map<String, String> sections = sectionsOf(Files.readString(DOCUMENT));
        for (String heading : headings) {
            check.due("the document has " + heading, true, sections.containsKey(heading));
            untested.put(heading, sections.getOrDefault(heading, ""));
        }
    }

    static Sentences ofPromises(int first, int last) throws IOException {
        String[] headings = new String[last - first + 1];
        for (int promise = first; promise <= last; promise++) {
            headings[promise - first] = "Promise " + promise;
        }
        return new Sentences(headings);
    }

    /** Each section has a line for each paragraph. */
    private static Map<String, String> sectionsOf(String document) {
        Map<String, String> sections = new LinkedHashMap<>();
        String heading = "";
        for (String paragraph : document.split("\n\\s*\n|(?<=</h2>)\n|\n(?=<h2>)|\n(?=- )")) {
            String line = paragraph.replaceAll("\\s+", " ").trim();
            Matcher matcher = HEADING.matcher(line);
            if (matcher.matches()) {
                heading = firstOf(matcher);
            } else {
                sections.merge(heading, line, (before, more) -> before + "\n" + more);
            }
        }
        return sections;
    }

    private static String firstOf(Matcher matcher) {
        for (int group = 1; group < matcher.groupCount(); group++) {
            if (matcher.group(group) != null) {
                return matcher.group(group);
            }
        }
        return matcher.group(matcher.groupCount());
    }

    void test(String heading, String sentence, Test test) {
        int wrong = check.wrong();
        strikeOut(heading, sentence);
        int answers = check.answers();
        check.due("its test", "runs to its end", Check.answerOf(() -> ran(test)));
        check.due("it asks something", true, check.answers() > answers + 1);
        if (check.wrong() > wrong) {
            System.out.println("    under " + heading + ": " + sentence);
        }
    }

    /** A sentence that promises nothing that a call could show. */
    void leave(String heading, String sentence) {
        strikeOut(heading, sentence);
    }

    private String ran(Test test) {
        test.run(check);
        return "runs to its end";
    }

    private void strikeOut(String heading, String sentence) {
        String section = untested.getOrDefault(heading, "");
        int start = (section + "\n").indexOf("\n" + sentence + "\n") + 1;
        start = start > 0 ? start : section.indexOf(sentence);
        check.due("the document has the sentence under the heading", true, start >= 0);
        if (start >= 0) {
            String rest = section.substring(start + sentence.length());
            untested.put(heading, section.substring(0, start) + rest);
        }
    }

    void end() {
        for (Map.Entry<String, String> section : untested.entrySet()) {
            boolean isPromise = section.getKey().startsWith("Promise ");
            for (String line : section.getValue().split("\n")) {
                boolean needsTest = isPromise ? line.matches("(Returns|Throws) .*") : !line.isBlank();
                check.due("no test under " + section.getKey(), "", needsTest ? line : "");
            }
        }
        check.end();
    }
}
