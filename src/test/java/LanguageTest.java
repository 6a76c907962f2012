import java.io.IOException;
import java.lang.reflect.Constructor;
import java.lang.reflect.Field;
import java.lang.reflect.Method;
import java.lang.reflect.Modifier;
import java.nio.file.Files;
import java.nio.file.Path;
import java.util.ArrayList;
import java.util.Arrays;
import java.util.Collections;
import java.util.List;
import java.util.TreeSet;
import java.util.regex.Matcher;
import java.util.regex.Pattern;

/** The face is that of the document, and the source keeps to what can be read off it of LANGUAGE.md. */
public final class LanguageTest {
    private static final Path SOURCE = Path.of("src/main/java/Openline.java");
    private static final Path DOCUMENT = Path.of("../shared/DOC.md");
    private static final int MOST_LINES = 60;
    private static final int MOST_CLASSES = 12;

    public static void main(String[] args) throws IOException {
        String source = Files.readString(SOURCE);
        String code = withoutCommentsAndTexts(source);
        faceIsThatOfTheDocument();
        nothingElseIsSeen();
        onlyWhatIsAllowed(code);
        methodsAreShort(code);
        namesOfTheFaceStandOnce(code);
        Due.end("LanguageTest");
    }

    private static void faceIsThatOfTheDocument() throws IOException {
        List<String> want = new ArrayList<>();
        for (String line : Files.readString(DOCUMENT).split("\n")) {
            if (line.startsWith("    public ") && line.endsWith(";")) {
                want.add(line.trim().replace(";", "").replaceAll("\\b(int|boolean) \\w+(?=[,)])", "$1"));
            }
        }
        List<String> got = new ArrayList<>();
        for (Constructor<?> one : Openline.class.getDeclaredConstructors()) {
            got.add("public Openline(" + types(one.getParameterTypes(), "") + ")" + types(one.getExceptionTypes(), " throws "));
        }
        for (Method one : Openline.class.getDeclaredMethods()) {
            if (Modifier.isPublic(one.getModifiers())) {
                got.add("public " + one.getReturnType().getSimpleName() + " " + one.getName()
                    + "(" + types(one.getParameterTypes(), "") + ")" + types(one.getExceptionTypes(), " throws "));
            }
        }
        Collections.sort(want);
        Collections.sort(got);
        Due.same("calls of the face", got.size(), 30);
        Due.same("face", String.join("\n", got), String.join("\n", want));
    }

    private static String types(Class<?>[] all, String ahead) {
        List<String> names = new ArrayList<>();
        for (Class<?> one : all) {
            names.add(one.getSimpleName());
        }
        return names.isEmpty() ? "" : ahead + String.join(", ", names);
    }

    private static void nothingElseIsSeen() {
        Due.same("public and final", Openline.class.getModifiers(), Modifier.PUBLIC | Modifier.FINAL);
        for (Method one : Openline.class.getDeclaredMethods()) {
            int seen = one.getModifiers() & (Modifier.PUBLIC | Modifier.PRIVATE);
            Due.same(one.getName() + " is public or private", seen != 0, true);
        }
        for (Field one : Openline.class.getDeclaredFields()) {
            Due.same(one.getName() + " is private", Modifier.isPrivate(one.getModifiers()), true);
            boolean isStatic = Modifier.isStatic(one.getModifiers());
            Due.same(one.getName() + " is final if static", !isStatic || Modifier.isFinal(one.getModifiers()), true);
        }
        Class<?>[] inside = Openline.class.getDeclaredClasses();
        Due.same("some twelve classes", inside.length < MOST_CLASSES, true);
        for (Class<?> one : inside) {
            Due.same(one.getName() + " is static", Modifier.isStatic(one.getModifiers()), true);
            Due.same(one.getName() + " is not public", Modifier.isPublic(one.getModifiers()), false);
        }
    }

    private static void onlyWhatIsAllowed(String code) {
        String[] forbidden = {"\\btry\\b", "\\bcatch\\b", "\\bfinally\\b", "\\bassert\\b", "\\bsynchronized\\b", "->", "::",
            "\\bsuper\\b", "\\binstanceof\\b", "\\bequals\\b", "\\bhashCode\\b", "\\bMath\\.\\w*Exact\\b", "\\bSystem\\b",
            "\\bThread\\b", "\\b(Integer|Long)\\.[A-Z]", "\\bObject\\b", "\\bRandom\\b", "\\bwhile \\(true\\)", "for \\(;", "\\bthis\\)", "\\bthis,"};
        for (String one : forbidden) {
            Due.same("in the source: " + one, Pattern.compile(one).matcher(code).find(), false);
        }
        Matcher imports = Pattern.compile("import ([\\w.*]+);").matcher(code);
        while (imports.find()) {
            Due.same("import", imports.group(1), "java.util.ArrayList");
        }
        TreeSet<String> thrown = new TreeSet<>();
        Matcher throwing = Pattern.compile("throw new (\\w+)").matcher(code);
        while (throwing.find()) {
            thrown.add(throwing.group(1));
        }
        Due.same("thrown", thrown.toString(),
            "[IllegalArgumentException, IllegalStateException, IndexOutOfBoundsException]");
    }

    private static void methodsAreShort(String code) {
        String[] lines = code.split("\n");
        int start = -1;
        String end = "";
        for (int i = 0; i < lines.length; i++) {
            Matcher head = Pattern.compile("^( {4}| {8})(?!static final class|private static final class)\\S.*\\) ?.*\\{$")
                .matcher(lines[i]);
            if (start < 0 && head.matches() && !lines[i].contains(" class ")) {
                start = i;
                end = head.group(1) + "}";
            } else if (start >= 0 && lines[i].equals(end)) {
                Due.same("short: " + lines[start].trim(), i - start <= MOST_LINES, true);
                start = -1;
            }
        }
    }

    /** No method of a class inside, and no private one, bears the name of a public one. */
    private static void namesOfTheFaceStandOnce(String code) {
        for (String name : Calls.NAMES) {
            int many = 0;
            Matcher heads = Pattern.compile("(?m)^ +(?!return|case)[\\w<>\\[\\] ]+ " + name + "\\([^;]*$").matcher(code);
            while (heads.find()) {
                many++;
            }
            Due.same("methods with the name " + name, many, 1);
        }
        Due.same("names of the face", new TreeSet<>(Arrays.asList(Calls.NAMES)).size(), 29);
    }

    private static String withoutCommentsAndTexts(String source) {
        return source.replaceAll("(?s)/\\*.*?\\*/", "").replaceAll("//[^\n]*", "").replaceAll("\"[^\"\n]*\"", "\"\"");
    }
}
