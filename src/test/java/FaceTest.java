import java.io.IOException;
import java.lang.reflect.Constructor;
import java.lang.reflect.Field;
import java.lang.reflect.Method;
import java.lang.reflect.Modifier;
import java.nio.file.Files;
import java.nio.file.Path;
import java.util.ArrayList;
import java.util.Arrays;
import java.util.HashSet;
import java.util.List;
import java.util.Set;

/** The public face, the constant, and those rules of LANGUAGE.md that can be read off the class and its text. */
public final class FaceTest {
    private static final String[] FACE = {
        "public int AlignRows.table()",
        "public int AlignRows.type(int,int,int,int)",
        "public int AlignRows.lay(int)",
        "public int AlignRows.glue(int,int,int,int,int)",
        "public int AlignRows.shrink(int,int,int,int)",
        "public int AlignRows.row(int)",
        "public int AlignRows.entry(int,int,int,boolean)",
        "public int AlignRows.nest(int,int,int)",
        "public int AlignRows.end(int)",
        "public int AlignRows.between(int)",
        "public long AlignRows.run(int,int,int)",
        "public int AlignRows.width(int,int)",
        "public boolean AlignRows.isVoid(int,int)",
        "public long AlignRows.place(int,int) throws java.lang.ArrayIndexOutOfBoundsException",
        "public long AlignRows.at(int,int,int,int) throws java.lang.ArrayIndexOutOfBoundsException",
        "public int AlignRows.item(int,int) throws java.lang.ArrayIndexOutOfBoundsException",
        "public long AlignRows.count(int,int) throws java.lang.ArrayIndexOutOfBoundsException",
    };

    public static void main(String[] args) throws IOException {
        face();
        inside();
        text();
        Checks.finish();
    }

    private static void face() {
        Checks.due("NONE", -1, AlignRows.NONE);
        Set<String> wanted = new HashSet<>(Arrays.asList(FACE));
        Set<String> names = new HashSet<>();
        for (Method method : AlignRows.class.getDeclaredMethods()) {
            if (!Modifier.isPrivate(method.getModifiers())) {
                names.add(method.getName());
                Checks.holds("is of the face: " + method, wanted.remove(method.toString()));
            }
        }
        Checks.holds("has all of the face, but for " + wanted, wanted.isEmpty());
        for (Method method : AlignRows.class.getDeclaredMethods()) {
            if (Modifier.isPrivate(method.getModifiers())) {
                Checks.holds("has a name of its own: " + method, !names.contains(method.getName()));
            }
        }
        for (Field field : AlignRows.class.getDeclaredFields()) {
            boolean isNone = field.toString().equals("public static final int AlignRows.NONE");
            Checks.holds("is private: " + field, isNone || Modifier.isPrivate(field.getModifiers()));
        }
        Constructor<?>[] made = AlignRows.class.getDeclaredConstructors();
        Checks.holds("one constructor", made.length == 1 && made[0].toString().equals("public AlignRows()"));
        Checks.holds("public and final", AlignRows.class.toString().equals("class AlignRows")
                && AlignRows.class.getModifiers() == (Modifier.PUBLIC | Modifier.FINAL));
    }

    private static void inside() {
        Class<?>[] classes = AlignRows.class.getDeclaredClasses();
        Checks.holds("at most twelve classes", classes.length < 12);
        for (Class<?> one : classes) {
            int modifiers = one.getModifiers();
            Checks.holds("is static: " + one, Modifier.isStatic(modifiers));
            Checks.holds("is hidden: " + one, !Modifier.isPublic(modifiers) && !Modifier.isProtected(modifiers));
            Checks.holds("at most twenty fields: " + one, one.getDeclaredFields().length <= 20);
            for (Field field : one.getDeclaredFields()) {
                Checks.holds("no static state: " + field, !Modifier.isStatic(field.getModifiers()));
            }
            for (Method method : one.getDeclaredMethods()) {
                Checks.holds("at most seven parameters: " + method, method.getParameterCount() <= 7);
            }
        }
    }

    private static void text() throws IOException {
        List<String> lines = Files.readAllLines(Path.of("src/main/java/AlignRows.java"));
        List<String> imports = new ArrayList<>();
        for (String line : lines) {
            if (line.startsWith("import ")) {
                imports.add(line);
            }
            Checks.holds("no word that is ruled out: " + line, !line.matches(".*(->|::|\\b(assert|synchronized"
                    + "|finally|record|package|catch|protected|double|float|System|Exact)\\b|new Object).*"));
            Checks.holds("plain signs: " + line, line.chars().allMatch(sign -> sign >= 32 && sign < 127));
        }
        Checks.due("imports", 1, imports.size());
        Checks.holds("only Arrays", imports.contains("import java.util.Arrays;"));
        int begin = 0;
        for (int i = 0; i < lines.size(); i++) {
            if (lines.get(i).matches(" {4,8}\\S.*\\) (throws \\w+ )?\\{")) {
                begin = i;
            }
            if (lines.get(i).matches(" {4,8}\\}")) {
                Checks.holds("a short method at line " + (begin + 1), i - begin < 60);
            }
        }
    }
}
