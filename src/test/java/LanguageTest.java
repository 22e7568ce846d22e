import java.io.IOException;
import java.lang.reflect.Constructor;
import java.lang.reflect.Field;
import java.lang.reflect.Method;
import java.lang.reflect.Modifier;
import java.nio.file.Files;
import java.nio.file.Path;
import java.util.HashMap;
import java.util.HashSet;
import java.util.Map;
import java.util.Set;
import java.util.regex.Matcher;
import java.util.regex.Pattern;

/** The rules of LANGUAGE.md that the program's text, or the class as it is compiled, shows. */
public final class LanguageTest {
    private static final Expect expect = new Expect("LanguageTest");
    private static final Pattern CALL = Pattern.compile("(?<!new )\\b(\\w+)\\(");
    private static final Path PROGRAM = Path.of("src/main/java/WrappedHands.java");

    private static final String[] FACE = {
        "int person(int)", "int of(int,int)", "int change(int,int,int)", "int gift(int,int,int)",
        "int giftOf(int,int)", "int layer(int,int,int)", "int rule(int,int)", "int send(int,int)",
        "int open(int)", "int skin(int,int)", "int writes(int,int)", "int hands(int,int)", "int keeps(int,int)",
        "int days(int)", "int now(int)", "int ahead(int,int)", "int fate(int)", "int when(int)", "int seen(int)",
        "int senders(int,int)", "int fates(int)", "int wish(int,int)", "int turn(int,int,int)", "int ends(int)",
        "int law(int)", "int rounds()", "int kindFor(int)", "int hopes(int)", "int missed()",
        "int writers(int,int)", "long ways(int)", "int forged(int)", "int guess(int,int)", "int wind(int)",
        "int seed(int)", "int feed(int,int)", "int wipe()", "int text()", "int hold(int,int)", "int as(int,int)",
        "int sheet(int,int,int)", "int write(int,int,int)", "int copy(int,int,int,int,int)", "int load(int)",
        "int judge(int,int)", "int image()", "int undo()", "int tear()", "int count(int)", "int status(int)"};

    /** Rules 2, 4, 6, 12 (a constructor that gets nothing is handed nothing) and 13, as far as words tell. */
    private static final String[] FORBIDDEN = {
        "->", "::", "@", "\\b(throw|throws|try|catch|finally|synchronized|assert|volatile|native)\\b",
        "\\b(import|package|instanceof|Object|System\\.(?!arraycopy)\\w+|Thread|Random|File)\\b",
        "\\b\\w+Exact\\b", "\\b(equals|hashCode|toString|String\\.\\w+)\\s*\\(", "\\bwhile\\b", "\"\\s*\\+|\\+\\s*\"",
        "\\b(double|float|protected)\\b", "\\bnew\\s+\\w+\\([^)]"};

    public static void main(String[] args) throws IOException {
        String code = withoutTexts(Files.readString(PROGRAM));
        face();
        noOtherMembers();
        privateNames();
        staticFields();
        for (String word : FORBIDDEN) {
            Matcher m = Pattern.compile(word).matcher(code);
            expect.due("stands in the program: " + word, 0, m.find() ? 1 : 0);
        }
        methods(code);
        expect.close();
    }

    private static String withoutTexts(String text) {
        return text.replaceAll("(?s)/\\*.*?\\*/", "").replaceAll("//[^\n]*", "").replaceAll("\"[a-z]*\"", "\"\"");
    }

    private static String signature(Method m) {
        StringBuilder s = new StringBuilder(m.getReturnType() + " " + m.getName() + "(");
        for (Class<?> p : m.getParameterTypes()) {
            s.append(s.charAt(s.length() - 1) == '(' ? "" : ",").append(p);
        }
        return s.append(")").toString();
    }

    private static void face() {
        Set<String> there = new HashSet<>();
        for (Method m : WrappedHands.class.getDeclaredMethods()) {
            if (Modifier.isPublic(m.getModifiers())) {
                there.add(signature(m));
            }
        }
        for (String method : FACE) {
            expect.due("the face has " + method, 1, there.remove(method) ? 1 : 0);
        }
        expect.due("and no more than " + there, 0, there.size());
        Constructor<?>[] made = WrappedHands.class.getDeclaredConstructors();
        expect.due("one constructor", 1, made.length);
        expect.due("without parameters", 0, made[0].getParameterCount());
        expect.due("final", 1, Modifier.isFinal(WrappedHands.class.getModifiers()) ? 1 : 0);
    }

    private static void noOtherMembers() {
        for (Method m : WrappedHands.class.getDeclaredMethods()) {
            boolean fine = Modifier.isPublic(m.getModifiers()) || Modifier.isPrivate(m.getModifiers());
            expect.due(m + " is of the face or private", 1, fine ? 1 : 0);
        }
        for (Field f : WrappedHands.class.getDeclaredFields()) {
            expect.due(f + " is private", 1, Modifier.isPrivate(f.getModifiers()) ? 1 : 0);
        }
        Class<?>[] inside = WrappedHands.class.getDeclaredClasses();
        expect.due("at most twelve classes", 1, inside.length <= 11 ? 1 : 0);
        for (Class<?> c : inside) {
            expect.due(c + " is static", 1, Modifier.isStatic(c.getModifiers()) ? 1 : 0);
            expect.due(c + " is not public", 0, Modifier.isPublic(c.getModifiers()) ? 1 : 0);
        }
    }

    private static void privateNames() {
        Set<String> publicNames = new HashSet<>();
        for (Method m : WrappedHands.class.getDeclaredMethods()) {
            if (Modifier.isPublic(m.getModifiers())) {
                publicNames.add(m.getName());
            }
        }
        for (Method m : WrappedHands.class.getDeclaredMethods()) {
            boolean twice = Modifier.isPrivate(m.getModifiers()) && publicNames.contains(m.getName());
            expect.due(m + " bears a public name", 0, twice ? 1 : 0);
        }
        for (Class<?> c : WrappedHands.class.getDeclaredClasses()) {
            for (Method m : c.getDeclaredMethods()) {
                expect.due(m + " bears a public name", 0, publicNames.contains(m.getName()) ? 1 : 0);
            }
        }
    }

    private static void staticFields() {
        for (Field f : WrappedHands.class.getDeclaredFields()) {
            boolean open = Modifier.isStatic(f.getModifiers()) && !Modifier.isFinal(f.getModifiers());
            expect.due(f + " is static and not final", 0, open ? 1 : 0);
        }
        for (Class<?> c : WrappedHands.class.getDeclaredClasses()) {
            int fields = 0;
            for (Field f : c.getDeclaredFields()) {
                fields += Modifier.isStatic(f.getModifiers()) ? 0 : 1;
                expect.due(f + " is static", 0, Modifier.isStatic(f.getModifiers()) ? 1 : 0);
            }
            expect.due(c + " has at most twenty fields", 1, fields <= 20 ? 1 : 0);
        }
    }

    /** Each method from its head to the brace below it: short, and making no object but in a constructor. */
    private static void methods(String code) {
        Matcher m = Pattern.compile("(?m)^( {4}| {8})(?!for|if|switch|return|\\}| )(.*)\\) \\{\\n(?s)(.*?)\\n\\1\\}\\n")
                .matcher(code);
        int many = 0;
        Map<String, String> bodies = new HashMap<>();
        while (m.find()) {
            String head = m.group(2);
            bodies.merge(nameIn(head), m.group(3), String::concat);
            boolean constructor = head.matches("(public )?[A-Z]\\w*\\(.*");
            boolean makes = Pattern.compile("\\bnew\\b").matcher(m.group(3)).find();
            expect.due("makes an object: " + head, 0, makes && !constructor ? 1 : 0);
            expect.due("at most sixty lines: " + head, 1, m.group(3).split("\n").length <= 60 ? 1 : 0);
            expect.due("at most seven parameters: " + head, 1, head.split(",").length <= 7 ? 1 : 0);
            many++;
        }
        expect.due("methods are found: " + many, 1, many > 100 ? 1 : 0);
        for (String name : bodies.keySet()) {
            int deep = depth(name, bodies, new HashSet<>());
            expect.due("calls stand at most eight deep: " + name + " " + deep, 1, deep <= 8 ? 1 : 0);
        }
        expect.due("the deepest", 8, depth("missed", bodies, new HashSet<>()));
    }

    private static String nameIn(String head) {
        String before = head.substring(0, head.indexOf('('));
        return before.substring(before.lastIndexOf(' ') + 1);
    }

    /** How many methods stand at once; those of one name (becomeLike, begin) count as one that calls itself once. */
    private static int depth(String name, Map<String, String> bodies, Set<String> open) {
        if (!open.add(name)) {
            return 1;
        }
        int most = 0;
        Matcher call = CALL.matcher(bodies.get(name));
        while (call.find()) {
            if (bodies.containsKey(call.group(1))) {
                most = Math.max(most, depth(call.group(1), bodies, open));
            }
        }
        open.remove(name);
        return most + 1;
    }
}
