import java.io.ByteArrayOutputStream;
import java.io.IOException;
import java.io.PrintStream;
import java.nio.charset.StandardCharsets;
import java.nio.file.Files;
import java.nio.file.Path;

/** What README.md shows is what the class does. */
public final class ReadmeTest {
    private static final Due DUE = new Due("ReadmeTest");

    public static void main(String[] args) throws IOException {
        String page = Files.readString(Path.of("README.md"), StandardCharsets.UTF_8);
        String example = Files.readString(Path.of("src/test/java/Example.java"), StandardCharsets.UTF_8);
        DUE.same("the example", block(page, "java"), example);
        DUE.same("what the example prints", block(page, "text"), printed());
        everyCallIsNamed(page);
        refusalsAreCountedWhereItSays();
        someRefuseNothing();
        DUE.end();
    }

    private static String block(String page, String language) {
        String opening = "```" + language + "\n";
        int start = page.indexOf(opening);
        int end = start < 0 ? -1 : page.indexOf("```", start + opening.length());
        return end < 0 ? "" : page.substring(start + opening.length(), end);
    }

    private static String printed() {
        PrintStream before = System.out;
        ByteArrayOutputStream kept = new ByteArrayOutputStream();
        System.setOut(new PrintStream(kept, true, StandardCharsets.UTF_8));
        Example.main(new String[0]);
        System.setOut(before);
        return kept.toString(StandardCharsets.UTF_8).replace(System.lineSeparator(), "\n");
    }

    private static void everyCallIsNamed(String page) {
        for (java.lang.reflect.Method m : OnlyMovesHisLips.class.getDeclaredMethods()) {
            if (java.lang.reflect.Modifier.isPublic(m.getModifiers())) {
                DUE.holds(m.getName() + " is named", () -> page.contains("`" + m.getName() + "`"));
            }
        }
    }

    private static void refusalsAreCountedWhereItSays() {
        OnlyMovesHisLips x = Due.choir(0, 0, 0, 0, 0, 0, 0, 0);
        x.show(1, 0);
        DUE.is("no such SHELF", x.row(8, 0, 1), -1);
        DUE.is("status(11)", x.status(11), 1);
        DUE.is("a SINGER for a ROW", x.judge(1, 1), -12);
        DUE.is("status(12)", x.status(12), 1);
        DUE.is("NOTHING", x.loft(2), -3);
        DUE.is("status(13)", x.status(13), 1);
        DUE.is("a size below 0", x.row(0, 0, -1), -4);
        DUE.is("status(14)", x.status(14), 1);
        DUE.is("no such element", x.known(0), -5);
        DUE.is("status(15)", x.status(15), 1);
        DUE.is("a number that may not be", x.ask(0, 4), -6);
        DUE.is("status(16)", x.status(16), 1);
        DUE.is("no room", x.singer(0, 0, 1), -7);
        DUE.is("status(17)", x.status(17), 1);
    }

    private static void someRefuseNothing() {
        OnlyMovesHisLips x = new OnlyMovesHisLips();
        int[] odd = {Integer.MIN_VALUE, -2, -1, 0, 1, 8, 9, 10, 18, 160, 256, Integer.MAX_VALUE};
        for (int i : odd) {
            x.element(i, i);
            x.holds(i);
            x.lawful(i);
            x.seed(i);
            x.act(i, i, i);
            x.trace(i);
            x.status(i);
        }
        x.next();
        x.beside();
        x.fault();
        x.forget();
        x.image();
        for (int i = 11; i <= 17; i++) {
            DUE.is("status(" + i + ")", x.status(i), 0);
        }
    }
}
