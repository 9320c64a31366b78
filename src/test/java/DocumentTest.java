import java.io.IOException;
import java.nio.file.DirectoryStream;
import java.nio.file.Files;
import java.nio.file.Path;
import java.util.regex.Matcher;
import java.util.regex.Pattern;

/** The document as a whole: what its first line tells, and that a test quotes each sentence behind it. */
public final class DocumentTest {
    private static final String TEXT_FORM = "\"((?:[^\"\\\\]|\\\\.)*)\"";
    private static final Pattern TEXT = Pattern.compile(TEXT_FORM);
    private static final Pattern QUOTED = Pattern.compile("Checks\\.sentence\\(((?:[\\s+]*" + TEXT_FORM + ")+)\\)");

    public static void main(String[] args) throws IOException {
        tablesInTables();
        everySentence();
        Checks.finish();
    }

    private static void tablesInTables() {
        Checks.sentence("columns by a preamble, which may repeat, entries in rows with their templates, spans over some"
                + " columns, widths found first, glue between shared by its own orders; tables in tables.");
        AlignRows x = Checks.laid("&c#d");
        innermost(x);
        middle(x);
        x.glue(0, 1, 1, 1, 1);
        x.glue(0, 0, 0, 100, 0);
        x.row(0);
        Checks.due("an entry with its template", 0, x.entry(0, 7, 1, false));
        Checks.due("a table in it, over two columns", 1, x.nest(0, 1, 2));
        Checks.due("an entry of a column that repeats", 3, x.entry(0, 1, 1, true));
        Checks.due("entries", 3, x.end(0));
        x.row(0);
        Checks.due("a wider one", 0, x.entry(0, 20, 1, true));
        Checks.due("the innermost table", 1, x.nest(0, 2, 1));
        Checks.due("the table that has it too", 2, x.nest(0, 1, 1));
        x.end(0);
        Checks.due("natural", 70, x.run(0, 0, 0));
        Checks.widths("natural", x, 20, 15, 30, 1);
        Checks.places("natural", x, 0, 21, 37, 68);
        Checks.due("wider", 77, x.run(0, 1, 77));
        Checks.lastRun("wider", x, 4, 70, 7, 2, 1, 0);
        Checks.places("wider", x, 0, 22, 40, 73);
        Checks.due("where the table in it begins", 22, x.at(0, 0, 1, 3));
        Checks.due("the width of its box", 48, x.at(0, 0, 1, 4));
        Checks.due("its own width", 30, x.at(0, 0, 1, 0));
    }

    private static void innermost(AlignRows x) {
        x.table();
        x.table();
        x.type(2, '#', 0, 0);
        x.lay(2);
        x.glue(2, 0, 2, 0, 0);
        x.glue(2, 1, 3, 0, 0);
        x.row(2);
        x.entry(2, 10, 1, true);
        x.end(2);
        Checks.due("the innermost table", 15, x.run(2, 0, 0));
    }

    private static void middle(AlignRows x) {
        Checks.typeText(x, 1, "a#b&#");
        x.lay(1);
        x.glue(1, 1, 5, 1, 0);
        x.row(1);
        Checks.due("the innermost table in another", 0, x.nest(1, 2, 1));
        x.entry(1, 4, 1, false);
        x.end(1);
        Checks.due("the other one", 30, x.run(1, 1, 30));
        Checks.due("a table has neither before nor behind", 15, x.width(1, 0));
        Checks.due("where it goes on", 26, x.place(1, 1));
    }

    private static void everySentence() throws IOException {
        Checks.sentence("TABLES are numbered from 0 on, at most 6.");
        String document = Checks.document();
        boolean[] quoted = new boolean[document.length()];
        try (DirectoryStream<Path> tests = Files.newDirectoryStream(Path.of("src/test/java"), "*.java")) {
            for (Path test : tests) {
                markQuotes(Files.readString(test), document, quoted);
            }
        }
        markHeadings(document, quoted);
        int begin = document.indexOf("TABLES are numbered");
        int end = document.indexOf("## Not promised");
        Checks.holds("the document has promises", begin >= 0 && end > begin);
        boolean told = false;
        for (int i = begin; i < end; i++) {
            boolean bare = !quoted[i] && Character.isLetterOrDigit(document.charAt(i));
            if (bare && !told) {
                Checks.holds("a test quotes: " + document.substring(i, Math.min(end, i + 60)), false);
            }
            told = bare || told && !quoted[i];
        }
    }

    private static void markQuotes(String test, String document, boolean[] quoted) {
        Matcher quotes = QUOTED.matcher(test);
        while (quotes.find()) {
            StringBuilder words = new StringBuilder();
            Matcher texts = TEXT.matcher(quotes.group(1));
            while (texts.find()) {
                words.append(texts.group(1));
            }
            int at = document.indexOf(words.toString());
            while (at >= 0) {
                mark(quoted, at, at + words.length());
                at = document.indexOf(words.toString(), at + 1);
            }
        }
    }

    /** Headings are no sentences, and what the face prints is FaceTest's. */
    private static void markHeadings(String document, boolean[] quoted) {
        Pattern headings = Pattern.compile("======== \\d [A-Z]+|```text|## Promise \\d+: (A new object|\\w+)|`[^`]+`:"
                + "|; what later calls answer is free\\.|## The public face ```java .*? ``` ## Terms");
        Matcher matcher = headings.matcher(document);
        while (matcher.find()) {
            mark(quoted, matcher.start(), matcher.end());
        }
    }

    private static void mark(boolean[] quoted, int from, int to) {
        for (int i = from; i < to; i++) {
            quoted[i] = true;
        }
    }
}
