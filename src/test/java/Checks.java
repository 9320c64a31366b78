import java.io.IOException;
import java.io.UncheckedIOException;
import java.nio.file.Files;
import java.nio.file.Path;

/** What the tests share: each writes the answers that are not due, and ends with exit code 1 if there was one. */
final class Checks {
    private static int wrong = 0;
    private static int asked = 0;
    private static String document = "";
    private static String title = "";

    private Checks() {
    }

    interface Call {
        long answer();
    }

    /** What is asked from here on belongs to these words, which the document must have. */
    static void sentence(String words) {
        title = "";
        holds("the document has the words: " + words, document().contains(words));
        title = "[" + words + "] ";
    }

    /** The document in one line. */
    static String document() {
        if (document.isEmpty()) {
            try {
                document = Files.readString(Path.of("../shared/DOC.md")).replaceAll("\\s+", " ");
            } catch (IOException e) {
                throw new UncheckedIOException(e);
            }
        }
        return document;
    }

    static void due(String call, long want, long got) {
        asked++;
        if (want != got) {
            wrong++;
            System.out.println(title + call + " answered " + got + ", due is " + want);
        }
    }

    static void same(String what, String want, String got) {
        asked++;
        if (!want.equals(got)) {
            wrong++;
            System.out.println(title + what + " is\n  " + got + "\ndue is\n  " + want);
        }
    }

    static void holds(String claim, boolean is) {
        due(claim, 1, is ? 1 : 0);
    }

    /** The call must throw ArrayIndexOutOfBoundsException, and no other exception. */
    static void refuses(String call, Call made) {
        asked++;
        String got;
        try {
            got = "answered " + made.answer();
        } catch (RuntimeException e) {
            if (isThrownOutright(e)) {
                return;
            }
            got = "threw " + e;
        }
        wrong++;
        System.out.println(title + call + " " + got + ", due is ArrayIndexOutOfBoundsException");
    }

    /** An index that is used without a look at it throws with Java's own message, which begins with Index. */
    static boolean isThrownOutright(RuntimeException e) {
        return e.getClass() == ArrayIndexOutOfBoundsException.class
                && !String.valueOf(e.getMessage()).startsWith("Index");
    }

    static void finish() {
        System.out.println(asked + " answers, " + wrong + " not as due");
        if (wrong != 0) {
            System.exit(1);
        }
    }

    /** Types a text of any length, and answers what the last call did. */
    static int typeText(AlignRows x, int table, String text) {
        int answer = x.type(table, 0, 0, 0);
        for (int i = 0; i < text.length(); i += 4) {
            answer = x.type(table, pack(text, i), 0, 0);
        }
        return answer;
    }

    static int pack(String text, int from) {
        int packed = 0;
        for (int i = from; i < from + 4; i++) {
            packed = packed << 8 | (i < text.length() ? text.charAt(i) : 0);
        }
        return packed;
    }

    /** A new object whose table 0 has this preamble. */
    static AlignRows laid(String preamble) {
        AlignRows x = new AlignRows();
        x.table();
        typeText(x, 0, preamble);
        if (x.lay(0) < 1) {
            due("lay of " + preamble, 1, 0);
        }
        return x;
    }

    /** A row of table 0 with plain entries: widths and spans by turns. */
    static void plainRow(AlignRows x, int... widthsAndSpans) {
        x.row(0);
        for (int i = 0; i < widthsAndSpans.length; i += 2) {
            if (x.entry(0, widthsAndSpans[i], widthsAndSpans[i + 1], true) < 0) {
                due("a plain entry", 0, 1);
            }
        }
        x.end(0);
    }

    /** Table 0 has two columns and an open row; table 1 has one column of 70, and was run as told. */
    static AlignRows nestable(int way, int by) {
        AlignRows x = laid("z#z&z#z");
        x.table();
        x.type(1, '#', 0, 0);
        x.lay(1);
        x.row(1);
        x.entry(1, 70, 1, true);
        x.end(1);
        x.row(0);
        x.run(1, way, by);
        return x;
    }

    static void places(String what, AlignRows x, long... wanted) {
        for (int c = 0; c < wanted.length; c++) {
            due(what + ": place(0, " + c + ")", wanted[c], x.place(0, c));
        }
        int behind = wanted.length;
        refuses(what + ": place(0, " + behind + ")", () -> x.place(0, behind));
    }

    static void widths(String what, AlignRows x, long... wanted) {
        for (int c = 0; c < wanted.length; c++) {
            due(what + ": width(0, " + c + ")", wanted[c], x.width(0, c));
        }
        due(what + ": width(0, " + wanted.length + ")", -1, x.width(0, wanted.length));
    }

    /** Count 6 to 11: columns, natural width, excess, runs, order, what is missing. */
    static void lastRun(String what, AlignRows x, long... wanted) {
        for (int i = 0; i < 6; i++) {
            due(what + ": count(0, " + (6 + i) + ")", wanted[i], x.count(0, 6 + i));
        }
    }
}
