import java.io.IOException;
import java.lang.reflect.Constructor;
import java.lang.reflect.Field;
import java.lang.reflect.Method;
import java.lang.reflect.Modifier;
import java.nio.file.Files;
import java.nio.file.Path;
import java.util.ArrayList;
import java.util.HashSet;
import java.util.List;
import java.util.Set;
import java.util.regex.Matcher;
import java.util.regex.Pattern;

/** The public face, the constant, and those rules of LANGUAGE.md that can be read off the class and its text. */
public final class FaceTest {
    public static void main(String[] args) throws IOException {
        face();
        inside();
        text();
        Checks.finish();
    }

    private static void face() {
        Checks.due("NONE", -1, AlignRows.NONE);
        Set<String> wanted = printedMethods();
        Checks.due("methods that the document prints", 17, wanted.size());
        Set<String> names = new HashSet<>();
        for (Method method : AlignRows.class.getDeclaredMethods()) {
            if (!Modifier.isPrivate(method.getModifiers())) {
                names.add(method.getName());
                Checks.holds("is of the face: " + method, wanted.remove(method.toString()));
            }
        }
        Checks.holds("has all of the face, but for " + wanted, wanted.isEmpty());
        for (Method method : AlignRows.class.getDeclaredMethods()) {
            if (Modifier.isPrivate(method.getModifiers())) {
                Checks.holds("has a name of its own: " + method, !names.contains(method.getName()));
            }
        }
        for (Field field : AlignRows.class.getDeclaredFields()) {
            boolean isNone = field.toString().equals("public static final int AlignRows.NONE");
            Checks.holds("is private: " + field, isNone || Modifier.isPrivate(field.getModifiers()));
        }
        Constructor<?>[] made = AlignRows.class.getDeclaredConstructors();
        Checks.holds("one constructor", made.length == 1 && made[0].toString().equals("public AlignRows()"));
        Checks.holds("public and final", AlignRows.class.toString().equals("class AlignRows")
                && AlignRows.class.getModifiers() == (Modifier.PUBLIC | Modifier.FINAL));
    }

    /** The methods of the document's face, in the words that Java has for them. */
    private static Set<String> printedMethods() {
        String document = Checks.document();
        int begin = document.indexOf("public final class AlignRows {");
        String face = document.substring(begin, document.indexOf("```", begin));
        Checks.holds("the document prints NONE", face.contains(" public static final int NONE = -1;"));
        Checks.holds("the document prints the constructor", face.contains(" public AlignRows();"));
        Set<String> methods = new HashSet<>();
        Matcher printed = Pattern.compile("public (\\w+) (\\w+)\\(([^)]*)\\)( throws (\\w+))?;").matcher(face);
        while (printed.find()) {
            String types = printed.group(3).replaceAll("(\\w+) \\w+", "$1").replace(", ", ",");
            String thrown = printed.group(5) == null ? "" : " throws java.lang." + printed.group(5);
            methods.add("public " + printed.group(1) + " AlignRows." + printed.group(2) + "(" + types + ")" + thrown);
        }
        return methods;
    }

    private static void inside() {
        Class<?>[] classes = AlignRows.class.getDeclaredClasses();
        Checks.holds("at most twelve classes", classes.length < 12);
        for (Class<?> one : classes) {
            int modifiers = one.getModifiers();
            Checks.holds("is static: " + one, Modifier.isStatic(modifiers));
            Checks.holds("is hidden: " + one, !Modifier.isPublic(modifiers) && !Modifier.isProtected(modifiers));
            Checks.holds("at most twenty fields: " + one, one.getDeclaredFields().length <= 20);
            for (Field field : one.getDeclaredFields()) {
                Checks.holds("no static state: " + field, !Modifier.isStatic(field.getModifiers()));
            }
            for (Method method : one.getDeclaredMethods()) {
                Checks.holds("at most seven parameters: " + method, method.getParameterCount() <= 7);
            }
        }
    }

    private static void text() throws IOException {
        List<String> lines = Files.readAllLines(Path.of("src/main/java/AlignRows.java"));
        List<String> imports = new ArrayList<>();
        for (String line : lines) {
            if (line.startsWith("import ")) {
                imports.add(line);
            }
            Checks.holds("no word that is ruled out: " + line, !line.matches(".*(->|::|\\b(assert|synchronized"
                    + "|finally|record|package|catch|protected|double|float|System|Exact)\\b|new Object).*"));
            Checks.holds("plain signs: " + line, line.chars().allMatch(sign -> sign >= 32 && sign < 127));
        }
        Checks.due("imports", 1, imports.size());
        Checks.holds("only Arrays", imports.contains("import java.util.Arrays;"));
        int begin = 0;
        for (int i = 0; i < lines.size(); i++) {
            if (lines.get(i).matches(" {4,8}\\S.*\\) (throws \\w+ )?\\{")) {
                begin = i;
            }
            if (lines.get(i).matches(" {4,8}\\}")) {
                Checks.holds("a short method at line " + (begin + 1), i - begin < 60);
            }
        }
    }
}
