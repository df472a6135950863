import java.io.IOException;
import java.lang.reflect.Field;
import java.lang.reflect.Member;
import java.lang.reflect.Method;
import java.lang.reflect.Modifier;
import java.nio.charset.StandardCharsets;
import java.nio.file.Files;
import java.nio.file.Path;
import java.util.Arrays;
import java.util.List;
import java.util.Set;
import java.util.TreeSet;
import java.util.regex.Matcher;
import java.util.regex.Pattern;

/** The face of the class, and such rules of LANGUAGE.md as can be seen from its letters and its members. */
public final class LanguageTest {
    private static final Due DUE = new Due("LanguageTest");
    private static final String[] FACE = {
        "int row(int,int,int)", "int set(int,int,long)", "int copy(int,int,int,int,int)", "long element(int,int)",
        "int show(int,int)", "int holds(int)", "int says(int,int)", "int singer(int,int,int)", "int singerOf(int,int)",
        "int ask(int,int)", "int loft(int)", "int fault()", "int worlds(int)", "int world(int)", "int sounds(int,int)",
        "int heard(int,int)", "int known(int)", "int forget()", "int may(int)", "int likeliest()", "int lawful(int)",
        "int parts(int,int)", "int next()", "int by(int)", "int ahead(int,int,int)", "int judge(int,int)",
        "int behind(int,int)", "int byEar(int,int)", "int beside()", "int quiet()", "int swap(int,int)", "int isTrue(int)",
        "int hear(int)", "int evenings(int)", "int seed(int)", "int act(int,int,int)", "int trace(int)", "int image()",
        "int restore()", "int status(int)"
    };

    public static void main(String[] args) throws IOException {
        Class<?> face = OnlyMovesHisLips.class;
        members(face);
        for (Class<?> inner : face.getDeclaredClasses()) {
            inner(inner, names(face));
        }
        String source = Files.readString(Path.of("src/main/java/OnlyMovesHisLips.java"), StandardCharsets.ISO_8859_1);
        letters(withoutComments(source));
        methodLengths(source);
        DUE.end();
    }

    private static Set<String> names(Class<?> face) {
        Set<String> names = new TreeSet<>();
        for (Method m : face.getDeclaredMethods()) {
            if (Modifier.isPublic(m.getModifiers())) {
                names.add(m.getName());
            }
        }
        return names;
    }

    private static void members(Class<?> face) {
        DUE.holds("public and final", () -> Modifier.isPublic(face.getModifiers()) && Modifier.isFinal(face.getModifiers()));
        Set<String> have = new TreeSet<>();
        Set<String> open = names(face);
        for (Method m : face.getDeclaredMethods()) {
            if (m.isSynthetic()) {
                continue;
            }
            if (Modifier.isPublic(m.getModifiers())) {
                have.add(signature(m));
            } else {
                DUE.holds(m + " is private", () -> Modifier.isPrivate(m.getModifiers()));
                DUE.holds(m + " bears no public name", () -> !open.contains(m.getName()));
            }
            few(m);
        }
        DUE.holds("the face: " + have, () -> have.equals(new TreeSet<>(Arrays.asList(FACE))));
        DUE.is("constructors", face.getDeclaredConstructors().length, 1);
        for (Field f : face.getDeclaredFields()) {
            DUE.holds(f + " is private", () -> f.getName().equals("NONE") || Modifier.isPrivate(f.getModifiers()));
        }
        fields(face);
        DUE.holds("classes", () -> face.getDeclaredClasses().length + 1 <= 12);
    }

    private static String signature(Method m) {
        StringBuilder t = new StringBuilder().append(m.getReturnType()).append(' ').append(m.getName()).append('(');
        for (int i = 0; i < m.getParameterCount(); i++) {
            t.append(i == 0 ? "" : ",").append(m.getParameterTypes()[i]);
        }
        return t.append(')').toString();
    }

    private static void inner(Class<?> inner, Set<String> open) {
        DUE.holds(inner + " is static", () -> Modifier.isStatic(inner.getModifiers()));
        DUE.holds(inner + " isn't public", () -> !Modifier.isPublic(inner.getModifiers()));
        DUE.is(inner + ": classes inside", inner.getDeclaredClasses().length, 0);
        for (Method m : inner.getDeclaredMethods()) {
            DUE.holds(m + " bears no public name", () -> !open.contains(m.getName()));
            few(m);
        }
        fields(inner);
    }

    private static void few(Method m) {
        DUE.holds(m + " takes seven at most", () -> m.getParameterCount() <= 7);
    }

    private static boolean isConstant(Member m) {
        return Modifier.isStatic(m.getModifiers());
    }

    private static void fields(Class<?> c) {
        int many = 0;
        for (Field f : c.getDeclaredFields()) {
            if (!isConstant(f)) {
                many++;
            } else {
                DUE.holds(f + " is final", () -> Modifier.isFinal(f.getModifiers()));
            }
        }
        int fields = many;
        DUE.holds(c + " has " + fields + " fields", () -> fields <= 20);
    }

    private static String withoutComments(String source) {
        String text = source.replaceAll("(?s)/\\*.*?\\*/", " ").replaceAll("//[^\n]*", " ");
        return text.replaceAll("\"[^\"\n]*\"", "\"\"").replaceAll("'[^'\n]*'", "' '");
    }

    private static void letters(String text) {
        List<String> never = List.of("throw", "throws", "try", "catch", "finally", "synchronized", "assert", "import", "package",
            "volatile", "native", "System\\.(?!arraycopy)", "Object", "Override", "protected", "Exception", "Error", "var",
            "yield", "equals", "hashCode", "toString", "Random", "Thread", "Boolean", "Double", "double", "float");
        for (String word : never) {
            Matcher m = Pattern.compile("\\b" + word + (word.endsWith(")") ? "" : "\\b")).matcher(text);
            DUE.holds("no " + word, () -> !m.find());
        }
        for (String sign : List.of("->", "::", "@", "static {", "Exact(", "\"\" +", "+ \"\"")) {
            DUE.holds("no " + sign, () -> !text.contains(sign));
        }
    }

    /** By the source's own layout: methods begin and end at an indentation of four or eight. */
    private static void methodLengths(String source) {
        String[] lines = source.split("\n");
        for (String indent : List.of("    ", "        ")) {
            int start = -1;
            for (int i = 0; i < lines.length; i++) {
                if (lines[i].matches(indent + "[a-zA-Z].*\\) \\{")) {
                    start = i;
                } else if (lines[i].equals(indent + "}") && start >= 0) {
                    int length = i - start + 1;
                    DUE.holds(lines[start].trim() + " has " + length + " lines", () -> length <= 60);
                    start = -1;
                }
            }
        }
    }
}
