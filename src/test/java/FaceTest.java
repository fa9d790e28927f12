import java.io.IOException;
import java.lang.reflect.Constructor;
import java.lang.reflect.Field;
import java.lang.reflect.Member;
import java.lang.reflect.Method;
import java.lang.reflect.Modifier;
import java.nio.file.Files;
import java.nio.file.Path;
import java.util.Set;
import java.util.TreeSet;
import java.util.regex.Matcher;
import java.util.regex.Pattern;

/** The class has the face of the document, and its file keeps to the rules of LANGUAGE.md. */
public final class FaceTest {
    private static final Path SOURCE = Path.of("src/main/java/SwitchGraphs.java");
    private static final Path DOCUMENT = Path.of("../shared/DOC.md");

    public static void main(String[] args) throws IOException {
        faceIsTheDocuments();
        nothingElseIsVisible();
        classesKeepTheirSizes();
        wordsAreAllowed();
        methodsAreShort();
        Check.end();
    }

    // ---- the face

    private static void faceIsTheDocuments() throws IOException {
        Set<String> due = new TreeSet<>();
        String document = Files.readString(DOCUMENT);
        String block = document.substring(document.indexOf("```java") + 7);
        block = block.substring(0, block.indexOf("```"));
        Matcher line = Pattern.compile("\n    (public .*);").matcher(block);
        while (line.find()) {
            due.add(withoutParameterNames(line.group(1)));
        }
        Check.is("members in the document", due.size(), 51);
        Set<String> got = new TreeSet<>();
        for (Field field : SwitchGraphs.class.getDeclaredFields()) {
            if (Modifier.isPublic(field.getModifiers())) {
                got.add(constant(field));
            }
        }
        for (Constructor<?> made : SwitchGraphs.class.getDeclaredConstructors()) {
            got.add("public SwitchGraphs" + types(made.getParameterTypes())
                    + exceptions(made.getExceptionTypes()));
        }
        for (Method method : SwitchGraphs.class.getDeclaredMethods()) {
            if (Modifier.isPublic(method.getModifiers())) {
                got.add("public " + method.getReturnType().getSimpleName() + " " + method.getName()
                        + types(method.getParameterTypes())
                        + exceptions(method.getExceptionTypes()));
            }
        }
        Check.is("the face", String.join("\n", got), String.join("\n", due));
        int modifiers = SwitchGraphs.class.getModifiers();
        Check.is("public", Modifier.isPublic(modifiers), true);
        Check.is("final", Modifier.isFinal(modifiers), true);
    }

    private static String withoutParameterNames(String member) {
        return member.replaceAll("\\b(int|boolean) \\w+(?=[,)])", "$1");
    }

    private static String constant(Field field) {
        try {
            return "public static final int " + field.getName() + " = " + field.getInt(null);
        } catch (IllegalAccessException e) {
            return e.toString();
        }
    }

    private static String types(Class<?>[] types) {
        StringBuilder text = new StringBuilder("(");
        for (Class<?> type : types) {
            text.append(text.length() > 1 ? ", " : "").append(type.getSimpleName());
        }
        return text.append(")").toString();
    }

    private static String exceptions(Class<?>[] types) {
        String text = types(types);
        return types.length == 0 ? "" : " throws " + text.substring(1, text.length() - 1);
    }

    private static void nothingElseIsVisible() {
        Set<String> publicNames = new TreeSet<>();
        for (Method method : SwitchGraphs.class.getDeclaredMethods()) {
            if (Modifier.isPublic(method.getModifiers())) {
                publicNames.add(method.getName());
            } else {
                Check.is("private: " + method, Modifier.isPrivate(method.getModifiers()), true);
            }
        }
        for (Member member : SwitchGraphs.class.getDeclaredFields()) {
            Check.is("public or private: " + member,
                    (member.getModifiers() & (Modifier.PUBLIC | Modifier.PRIVATE)) != 0, true);
        }
        for (Class<?> inside : SwitchGraphs.class.getDeclaredClasses()) {
            for (Method method : inside.getDeclaredMethods()) {
                Check.is("a name of its own: " + method, publicNames.contains(method.getName()),
                        false);
            }
        }
        for (Method method : SwitchGraphs.class.getDeclaredMethods()) {
            if (Modifier.isPrivate(method.getModifiers())) {
                Check.is("a name of its own: " + method, publicNames.contains(method.getName()),
                        false);
            }
        }
    }

    // ---- sizes

    private static void classesKeepTheirSizes() {
        Class<?>[] inside = SwitchGraphs.class.getDeclaredClasses();
        Check.is("at most 12 classes", inside.length + 1 <= 12, true);
        keepsItsSize(SwitchGraphs.class);
        for (Class<?> one : inside) {
            keepsItsSize(one);
            Check.is("static: " + one, Modifier.isStatic(one.getModifiers()), true);
        }
    }

    private static void keepsItsSize(Class<?> one) {
        int fields = 0;
        for (Field field : one.getDeclaredFields()) {
            boolean isStatic = Modifier.isStatic(field.getModifiers());
            fields += isStatic ? 0 : 1;
            Check.is("static fields are final: " + field,
                    !isStatic || Modifier.isFinal(field.getModifiers()), true);
        }
        Check.is("at most 20 fields: " + one, fields <= 20, true);
        for (Method method : one.getDeclaredMethods()) {
            Check.is("at most 7 parameters: " + method, method.getParameterCount() <= 7, true);
        }
    }

    // ---- words

    /** The source without comments, and with its texts and signs emptied. */
    private static String bareSource() throws IOException {
        String source = Files.readString(SOURCE);
        source = source.replaceAll("(?s)/\\*.*?\\*/", "");
        source = source.replaceAll("\"[^\"\n]*\"", "\"\"");
        source = source.replaceAll("'(\\\\.|[^\\\\])'", "''");
        return source.replaceAll("//[^\n]*", "");
    }

    private static void wordsAreAllowed() throws IOException {
        String source = bareSource();
        String[] ruledOut = {"->", "::", "\\bcatch\\b", "\\btry\\b", "\\bfinally\\b",
            "\\bsynchronized\\b", "\\bassert\\b", "\\bprotected\\b", "\\binstanceof\\b",
            "\\bSystem\\b", "\\bThread\\b", "\\bObject\\b", "Exact\\(", "\"\" *\\+", "\\+ *\"\"",
            "\\bwhile *\\(true\\)", "for *\\(;;\\)", "\\benum\\b.*static \\{", "\\bstatic \\{",
            "\\b(equals|hashCode|toString) *\\(", "\\blong\\[\\]\\[\\]\\[", "\\bpackage\\b"};
        for (String pattern : ruledOut) {
            Check.is("not in the source: " + pattern,
                    Pattern.compile(pattern).matcher(source).find(), false);
        }
        Matcher imported = Pattern.compile("import ([^;]*);").matcher(source);
        while (imported.find()) {
            Check.is("import", imported.group(1), "java.util.NoSuchElementException");
        }
        Matcher thrown = Pattern.compile("throw ([^;]*);").matcher(source);
        while (thrown.find()) {
            Check.is("throws a new one: " + thrown.group(1), thrown.group(1).matches(
                    "new (IllegalState|IllegalArgument|IndexOutOfBounds|NoSuchElement)"
                            + "Exception\\(\"\"\\)"), true);
        }
        Matcher library = Pattern.compile("\\b(Math|Integer|Long|Arrays|List)\\.(\\w+)")
                .matcher(source);
        while (library.find()) {
            Check.is("library: " + library.group(), library.group().matches("Math\\.(min|max)"),
                    true);
        }
        Check.is("signs of the file", Files.readString(SOURCE).matches("(?s)[\\n\\x20-\\x7e]*"),
                true);
    }

    private static void methodsAreShort() throws IOException {
        String[] lines = Files.readString(SOURCE).split("\n");
        int start = -1;
        for (int k = 0; k < lines.length; k++) {
            if (lines[k].matches(" {4,8}\\w[^=;]*\\(.*") && !lines[k].endsWith(";")) {
                start = k;
            } else if (lines[k].matches(" {4,8}\\}") && start >= 0) {
                Check.is("at most 60 lines: " + lines[start], k - start < 60, true);
                start = -1;
            }
        }
    }
}
