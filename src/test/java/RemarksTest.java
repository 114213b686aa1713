import java.io.IOException;
import java.nio.file.DirectoryStream;
import java.nio.file.Files;
import java.nio.file.Path;
import java.util.BitSet;
import java.util.regex.Matcher;
import java.util.regex.Pattern;

/**
 * The remarks of the tests at the edges: each test there has one, what it quotes stands in the document, and all
 * together quote the whole of it, from the terms to promise 31.
 */
public final class RemarksTest {
    private static final Check check = new Check();
    private static final Path DOCUMENT = Path.of("../shared/DOC.md");
    private static final Path TESTS = Path.of("src/test/java");
    private static final Pattern TEST = Pattern.compile(
            "(?:(/\\*\\*(?:(?!\\*/).)*\\*/)\\s*)?private static void (\\w+)\\(\\) \\{", Pattern.DOTALL);
    private static final Pattern PLACE = Pattern.compile("^(Promise (\\d+),|Section [234],|Terms,|What it is,)");
    private static final Pattern QUOTE = Pattern.compile("\"([^\"]*)\"");

    private static String document;
    private static final BitSet quoted = new BitSet();
    private static final BitSet promises = new BitSet();

    public static void main(String[] args) throws IOException {
        if (!Files.exists(DOCUMENT)) {
            System.out.println("the document is not here, so the remarks are not compared with it");
            return;
        }
        document = plain(Files.readString(DOCUMENT));
        int tests = 0;
        try (DirectoryStream<Path> files = Files.newDirectoryStream(TESTS, "*EdgesTest.java")) {
            for (Path file : files) {
                tests += remarksOf(file);
            }
        }
        check.due("there are tests at the edges", tests > 0 ? 1 : 0, 1);
        for (int promise = 1; promise <= 31; promise++) {
            check.due("promise " + promise + " has a test", promises.get(promise) ? 1 : 0, 1);
        }
        nothingIsLeftOut();
        check.end();
    }

    /** One blank between words, whatever lines they stand on. */
    private static String plain(String text) {
        return text.replaceAll("\\s+", " ").trim();
    }

    private static int remarksOf(Path file) throws IOException {
        String source = Files.readString(file);
        int tests = 0;
        Matcher test = TEST.matcher(source);
        while (test.find()) {
            String name = file.getFileName() + ", " + test.group(2);
            check.due(name + " has a remark", test.group(1) == null ? 0 : 1, 1);
            check.due(name + " is called", source.contains("        " + test.group(2) + "();\n") ? 1 : 0, 1);
            if (test.group(1) != null) {
                remark(name, plain(test.group(1).replaceAll("(?m)^\\s*\\*(?!/)|/\\*\\*|\\*/", " ")));
            }
            tests++;
        }
        return tests;
    }

    private static void remark(String name, String remark) {
        Matcher place = PLACE.matcher(remark);
        boolean isPlaced = place.find();
        check.due(name + " names a promise, a section or the terms", isPlaced ? 1 : 0, 1);
        if (isPlaced && place.group(2) != null) {
            promises.set(Integer.parseInt(place.group(2)));
        }
        Matcher quote = QUOTE.matcher(remark);
        int quotes = 0;
        while (quote.find()) {
            quotes++;
            check.due(name + " quotes what stands there: " + quote.group(1), mark(quote.group(1)), 1);
        }
        check.due(name + " quotes a sentence", quotes > 0 ? 1 : 0, 1);
    }

    /** Marks every place where the words stand; 1 if there is one. */
    private static int mark(String words) {
        int found = 0;
        for (int at = document.indexOf(words); at >= 0; at = document.indexOf(words, at + 1)) {
            quoted.set(at, at + words.length());
            found = 1;
        }
        return found;
    }

    private static void nothingIsLeftOut() {
        int end = document.indexOf("## Not promised");
        int from = quoted.nextClearBit(document.indexOf("## Terms"));
        while (from < end) {
            int to = quoted.nextSetBit(from);
            to = to < 0 || to > end ? end : to;
            String left = document.substring(from, to);
            check.due("not quoted: " + left, saysNothing(left) ? 1 : 0, 1);
            from = quoted.nextClearBit(to);
        }
    }

    /** Headings, the calls as the face has them, and signs between sentences. */
    private static boolean saysNothing(String words) {
        String rest = words.replaceAll("```(text)?", "").replaceAll("`[^`]*`:?", "").replaceAll("==== [234]?", "")
                .replaceAll("## (Terms|Promise \\d+: (A new object|\\w+))", "");
        return rest.chars().noneMatch(Character::isLetterOrDigit);
    }
}
