import java.io.IOException;
import java.nio.file.Files;
import java.nio.file.Path;
import java.util.ArrayList;
import java.util.LinkedHashMap;
import java.util.List;
import java.util.Map;
import java.util.regex.Matcher;
import java.util.regex.Pattern;

/** The document cut into its parts, so that a test bears as its name the very words that it tests. */
final class Book {
    private static final Pattern PROMISE = Pattern.compile("## Promise (\\d+): .*");
    private static final Path DOCUMENT = Path.of("../shared/DOC.md");

    private final Due due;
    private final boolean open = Files.exists(DOCUMENT);
    private final Map<String, String> parts = new LinkedHashMap<>();
    private final Map<String, List<String>> tested = new LinkedHashMap<>();

    Book(Due due) throws IOException {
        this.due = due;
        if (!open) {
            System.out.println("no document at " + DOCUMENT + ": the words of the tests are not looked up");
            return;
        }
        String part = "";
        for (String line : Files.readString(DOCUMENT).split("\n")) {
            part = partOf(line, part);
            parts.merge(part, line, (told, more) -> told + " " + more);
        }
        parts.replaceAll((name, told) -> told.replaceAll("\\s+", " "));
    }

    /** "head", "face", "I", "II", "III", "constants", "1" to "39", "rest". */
    private static String partOf(String line, String before) {
        Matcher promise = PROMISE.matcher(line);
        if (promise.matches()) {
            return promise.group(1);
        }
        switch (line) {
            case "## What it is":
                return "head";
            case "## The public face":
                return "face";
            case "## Not promised":
                return "rest";
            default:
                Matcher terms = Pattern.compile("(I|II|III)\\. .*").matcher(line);
                return terms.matches() ? terms.group(1) : line.startsWith("The constants:") ? "constants" : before;
        }
    }

    /** A test of a sentence that stands in a part of the document: all that it finds is told with these words. */
    void test(String part, String words, Runnable holds) {
        due.begin(part + " \"" + words + "\"");
        due.yes("these words stand there", !open || parts.getOrDefault(part, "").contains(words));
        tested.computeIfAbsent(part, none -> new ArrayList<>()).add(words);
        holds.run();
        due.begin("");
    }

    /** Each promise, and each of I, II, III, has tests. */
    void nothingLeftOut() {
        for (String part : parts.keySet()) {
            boolean binds = part.matches("\\d+|I+|head|constants");
            due.yes("tests of part " + part, !binds || tested.containsKey(part));
        }
        due.is("promises with tests", tested.keySet().stream().filter(part -> part.matches("\\d+")).count(), 39);
    }

    /** The document with [[ ]] round the words that some test bears, to see which are left. */
    String marked() {
        StringBuilder all = new StringBuilder();
        for (Map.Entry<String, String> part : parts.entrySet()) {
            String told = part.getValue();
            boolean[] borne = new boolean[told.length() + 1];
            for (String words : tested.getOrDefault(part.getKey(), List.of())) {
                for (int at = told.indexOf(words); at >= 0; at = told.indexOf(words, at + 1)) {
                    java.util.Arrays.fill(borne, at, at + words.length(), true);
                }
            }
            all.append(part.getKey()).append(": ");
            for (int at = 0; at < told.length(); at++) {
                boolean before = at > 0 && borne[at - 1];
                all.append(borne[at] && !before ? "[[" : !borne[at] && before ? "]]" : "").append(told.charAt(at));
            }
            all.append(borne[Math.max(0, told.length() - 1)] ? "]]\n" : "\n");
        }
        return all.toString();
    }
}
