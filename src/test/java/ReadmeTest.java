import java.io.IOException;
import java.lang.reflect.Method;
import java.lang.reflect.Modifier;
import java.nio.file.DirectoryStream;
import java.nio.file.Files;
import java.nio.file.Path;
import java.util.regex.Matcher;
import java.util.regex.Pattern;

/** README.md: its example answers what it says, and it names each call and each test. */
public final class ReadmeTest {
    private static String readme = "";
    private static int lines = 0;

    public static void main(String[] args) throws IOException {
        readme = Files.readString(Path.of("README.md"));
        example();
        everyCall();
        everyTest();
        Checks.finish();
    }

    private static void example() {
        AlignRows x = new AlignRows();
        int t = x.table();
        answers("int t = x.table();", t);
        answers("x.type(t, 'a' << 16 | '#' << 8 | '&', '#', 0);", x.type(t, 'a' << 16 | '#' << 8 | '&', '#', 0));
        answers("x.lay(t);", x.lay(t));
        answers("x.glue(t, 1, 10, 5, 0);", x.glue(t, 1, 10, 5, 0));
        answers("x.row(t);", x.row(t));
        answers("x.entry(t, 30, 1, false);", x.entry(t, 30, 1, false));
        answers("x.entry(t, 40, 1, true);", x.entry(t, 40, 1, true));
        answers("x.end(t);", x.end(t));
        answers("x.run(t, 1, 100);", x.run(t, 1, 100));
        answers("x.place(t, 1);", x.place(t, 1));
        answers("x.at(t, 0, 1, 4);", x.at(t, 0, 1, 4));
        answers("x.count(t, 8);", x.count(t, 8));
        Checks.due("lines of the example", lines, readme.split("; +// ", -1).length - 1);
    }

    /** The example's next line is this call, with the answer at the beginning of its comment. */
    private static void answers(String call, long got) {
        lines++;
        Matcher line = Pattern.compile("(?m)^" + Pattern.quote(call) + " +// (-?\\d+)\\b").matcher(readme);
        boolean found = line.find();
        Checks.holds("README has the line " + call, found);
        if (found) {
            Checks.due("README: " + call, Long.parseLong(line.group(1)), got);
        }
    }

    private static void everyCall() {
        for (Method method : AlignRows.class.getDeclaredMethods()) {
            if (Modifier.isPublic(method.getModifiers())) {
                Checks.holds("README tells of " + method.getName(), readme.contains("| `" + method.getName() + "("));
            }
        }
    }

    private static void everyTest() throws IOException {
        try (DirectoryStream<Path> tests = Files.newDirectoryStream(Path.of("src/test/java"), "*Test.java")) {
            for (Path test : tests) {
                String name = test.getFileName().toString().replace(".java", "");
                Checks.holds("README tells of " + name, readme.contains("| " + name + " |"));
            }
        }
    }
}
