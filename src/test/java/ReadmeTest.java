import java.io.ByteArrayOutputStream;
import java.io.IOException;
import java.io.PrintStream;
import java.lang.reflect.Method;
import java.lang.reflect.Modifier;
import java.nio.charset.StandardCharsets;
import java.nio.file.DirectoryStream;
import java.nio.file.Files;
import java.nio.file.Path;
import java.util.ArrayList;
import java.util.List;
import java.util.regex.Matcher;
import java.util.regex.Pattern;

/** README.md: what it shows and says of the class is what the class does. */
public final class ReadmeTest {
    private static final Expect expect = new Expect("ReadmeTest");
    private static final Path TESTS = Path.of("src/test/java");
    private static final Pattern CALL = Pattern.compile("`(\\w+)\\(([\\w, ]*)\\)`");

    public static void main(String[] args) throws IOException {
        String readme = Files.readString(Path.of("README.md"));
        example(readme);
        calls(readme);
        findings(readme);
        kinds(readme);
        tests(readme);
        expect.close();
    }

    private static void example(String readme) throws IOException {
        String program = Files.readString(TESTS.resolve("Example.java"));
        same("the example is Example.java", program, between(readme, "```java\n", "```"));
        same("the example prints this", printedByExample(), between(readme, "```text\n", "```"));
    }

    private static String printedByExample() {
        ByteArrayOutputStream printed = new ByteArrayOutputStream();
        PrintStream was = System.out;
        System.setOut(new PrintStream(printed, true, StandardCharsets.UTF_8));
        Example.main(new String[0]);
        System.setOut(was);
        return printed.toString(StandardCharsets.UTF_8).replace("\r\n", "\n");
    }

    /** In the table of calls stands each method of the face, once, with as many parameters as it has. */
    private static void calls(String readme) {
        List<String> told = new ArrayList<>();
        Matcher call = CALL.matcher(between(readme, "### The calls\n", "\nA text"));
        while (call.find()) {
            int parameters = call.group(2).isEmpty() ? 0 : call.group(2).split(", ").length;
            told.add(call.group(1) + "/" + parameters);
        }
        for (Method m : WrappedHands.class.getDeclaredMethods()) {
            if (Modifier.isPublic(m.getModifiers())) {
                String face = m.getName() + "/" + m.getParameterCount();
                expect.due(face + " stands in README.md", 1, told.remove(face) ? 1 : 0);
            }
        }
        expect.due("calls in README.md that aren't there, or stand twice: " + told, 0, told.size());
    }

    private static void findings(String readme) {
        WrappedHands x = Coasts.of(Coasts.HAND);
        for (int g = 0; g < 5; g++) {
            x.gift(1, 0, 0);
        }
        x.hold(0, 0);
        finding(readme, x, "BEYOND", x.person(7));
        finding(readme, x, "FULL", x.gift(1, 0, 0));
        finding(readme, x, "KIND", x.as(0, Coasts.CHILD));
        finding(readme, x, "NONE", x.open(0));
        x.skin(1, 0);
        finding(readme, x, "STATE", x.open(1));
        finding(readme, x, "MISSING", x.load(0));
        finding(readme, x, "SIZE", x.sheet(0, 8, -1));
    }

    /** The row of a finding tells the answer that was had, and where status() counts it. */
    private static void finding(String readme, WrappedHands x, String name, int answer) {
        String[] row = cells(readme, "| " + name + " |");
        expect.due(name + " has a row", 1, row.length > 3 ? 1 : 0);
        if (row.length > 3) {
            expect.due(name + " in README.md", answer, Integer.parseInt(row[2]));
            expect.due(name + ", counted there", 1, x.status(Integer.parseInt(row[3])));
        }
    }

    /** The row of a kind tells its word in a text and the kind above it. */
    private static void kinds(String readme) {
        String table = between(readme, "### Kinds of people\n", "###");
        for (int kind = 0; kind <= 6; kind++) {
            String[] row = cells(table, "| " + kind + " |");
            expect.due("kind " + kind + " has a row", 1, row.length > 3 ? 1 : 0);
            if (row.length > 3) {
                kind(kind, row[2].replace("`", ""), row[3]);
            }
        }
    }

    private static void kind(int kind, String word, String above) {
        WrappedHands x = new WrappedHands();
        expect.due("the text " + word, 1, Coasts.read(x, word));
        expect.due(word + " is of kind", kind, x.of(0, 0));
        if (above.isEmpty()) {
            expect.due(word + " is under no other kind", 1 << kind, kindsOf(kind));
        } else {
            int kindsAbove = kindsOf(Integer.parseInt(above));
            expect.due(word + " is under " + above, 1 << kind | kindsAbove, kindsOf(kind));
        }
    }

    /** As which kinds one of a kind counts, as a set. */
    private static int kindsOf(int kind) {
        WrappedHands x = Coasts.of(kind);
        x.hold(0, 0);
        int set = 0;
        for (int k = 0; k <= 6; k++) {
            set |= x.as(0, k) == 0 ? 1 << k : 0;
        }
        return set;
    }

    private static void tests(String readme) throws IOException {
        try (DirectoryStream<Path> files = Files.newDirectoryStream(TESTS, "*Test.java")) {
            for (Path file : files) {
                String name = file.getFileName().toString().replace(".java", "");
                expect.due(name + " has a row", 1, cells(readme, "| " + name + " |").length > 2 ? 1 : 0);
            }
        }
    }

    private static String between(String text, String head, String end) {
        int from = text.indexOf(head);
        int to = from < 0 ? -1 : text.indexOf(end, from + head.length());
        return to < 0 ? "" : text.substring(from + head.length(), to);
    }

    /** What stands between the bars of the first line that begins so; nothing, if no line does. */
    private static String[] cells(String text, String begin) {
        for (String line : text.split("\n")) {
            if (line.startsWith(begin)) {
                return line.split(" *\\| *", -1);
            }
        }
        return new String[0];
    }

    private static void same(String what, String want, String got) {
        expect.due(what, 1, want.equals(got) ? 1 : 0);
        if (!want.equals(got)) {
            System.out.println("due is:\n" + want + "README.md has:\n" + got);
        }
    }
}
