import java.io.IOException;
import java.lang.reflect.Constructor;
import java.lang.reflect.Field;
import java.lang.reflect.Method;
import java.lang.reflect.Modifier;
import java.nio.charset.StandardCharsets;
import java.nio.file.Files;
import java.nio.file.Path;
import java.util.ArrayList;
import java.util.Arrays;
import java.util.List;
import java.util.Set;
import java.util.TreeSet;
import java.util.regex.Matcher;
import java.util.regex.Pattern;

/** The face of the class, and those rules of LANGUAGE.md that can be seen without a compiler of one's own. */
public final class LanguageTest {
    private static final Path PROGRAM = Path.of("src/main/java/SownSeeds.java");
    private static final String FACE = """
            public int write(int letter);
            public int erase();
            public int fault();
            public int board();
            public int house(int house, int what);
            public int as(int house, int kind);
            public int move(int house);
            public int drop(int house, int n);
            public int swap(int house, int other);
            public int undo();
            public int keep(int k);
            public int back(int k);
            public int brings(int house);
            public int best(int d, int k);
            public int rash(int n);
            public int over();
            public int gift(int d);
            public int luck(int n, int part);
            public int seen(int g, int l, int takes, int yields);
            public int forget();
            public int kinds();
            public int ask();
            public int box(int box, int n);
            public int put(int box, int what, int v);
            public int take(int box, int what);
            public int spill(int box);
            public int deep(int box, int what);
            public int alike(int box, int other);
            public int lose(int box);
            public int count(int what);
            """;
    private static final Set<String> CONSTANTS = Set.of("NONE", "UNKNOWN", "OUTSIDE", "NOT", "FULL", "NULL",
            "EMPTY", "CAST", "ROOM", "LOOP", "SIZE");
    private static final Pattern REFUSED = Pattern.compile("\\b(throw|throws|try|catch|finally|synchronized|assert"
            + "|import|package|native|volatile|transient|var|protected|Object|Thread|Random|Exception|Throwable"
            + "|\\w*Exact|hashCode|toString|float|double)\\b|->|::|@|\\\\u");

    private static final Pattern MEMBER = Pattern.compile("( {4}| {8})(?!if|for|while|switch|do|\\})\\S.*\\) \\{");

    private final Checks c = new Checks();

    public static void main(String[] args) throws IOException {
        LanguageTest t = new LanguageTest();
        t.face();
        t.members();
        t.source();
        t.methodLengths();
        t.c.end();
    }

    private static List<Class<?>> allClasses() {
        List<Class<?>> all = new ArrayList<>(List.of(SownSeeds.class));
        all.addAll(Arrays.asList(SownSeeds.class.getDeclaredClasses()));
        return all;
    }

    private void face() {
        c.part("the face");
        c.holds("public and final", Modifier.isPublic(SownSeeds.class.getModifiers())
                && Modifier.isFinal(SownSeeds.class.getModifiers()));
        Set<String> want = new TreeSet<>();
        for (String line : FACE.strip().split("\n")) {
            String name = line.replaceAll("public int (\\w+)\\(.*", "$1");
            int parameters = line.contains("()") ? 0 : line.split(",").length;
            want.add("int " + name + " " + parameters);
        }
        Set<String> got = new TreeSet<>();
        for (Method method : SownSeeds.class.getDeclaredMethods()) {
            if (!Modifier.isPrivate(method.getModifiers())) {
                got.add(method.getReturnType() + " " + method.getName() + " " + method.getParameterCount());
            }
        }
        c.holds("methods " + want + " and not " + got, want.equals(got));
        Set<String> constants = new TreeSet<>();
        for (Field field : SownSeeds.class.getDeclaredFields()) {
            if (!Modifier.isPrivate(field.getModifiers())) {
                constants.add(field.getName());
            }
        }
        c.holds("constants " + constants, constants.equals(CONSTANTS));
        Constructor<?>[] made = SownSeeds.class.getDeclaredConstructors();
        c.holds("one constructor", made.length == 1 && made[0].getParameterCount() == 0);
    }

    private void members() {
        c.part("members");
        c.holds("at most twelve classes", allClasses().size() <= 12);
        Set<String> publicNames = new TreeSet<>();
        for (Method method : SownSeeds.class.getMethods()) {
            publicNames.add(method.getName());
        }
        for (Class<?> one : allClasses()) {
            c.holds(one + " has no class inside", one == SownSeeds.class || one.getDeclaredClasses().length == 0);
            c.holds(one + " is static", one == SownSeeds.class || Modifier.isStatic(one.getModifiers()));
            int fields = 0;
            for (Field field : one.getDeclaredFields()) {
                boolean isStatic = Modifier.isStatic(field.getModifiers());
                fields += isStatic ? 0 : 1;
                c.holds(field + " is final", !isStatic || Modifier.isFinal(field.getModifiers()));
                c.holds(field + " is of one dimension", !field.getType().isArray()
                        || !field.getType().getComponentType().isArray());
            }
            c.holds(one + " has at most twenty fields", fields <= 20);
            for (Method method : one.getDeclaredMethods()) {
                c.holds(method + " has at most seven parameters", method.getParameterCount() <= 7);
                c.holds(method + " bears no public name", !Modifier.isPrivate(method.getModifiers())
                        || !publicNames.contains(method.getName()));
            }
        }
    }

    private static String withoutComments(String source) {
        return source.replaceAll("(?s)/\\*.*?\\*/", "").replaceAll("//[^\n]*", "");
    }

    private void source() throws IOException {
        c.part("the source");
        String source = Files.readString(PROGRAM, StandardCharsets.ISO_8859_1);
        c.holds("plain signs alone", source.chars().allMatch(sign -> sign == '\n' || sign >= ' ' && sign < 127));
        Matcher found = REFUSED.matcher(withoutComments(source));
        while (found.find()) {
            c.holds("no " + found.group(), false);
        }
    }

    private void methodLengths() throws IOException {
        c.part("lengths");
        List<String> lines = Files.readAllLines(PROGRAM, StandardCharsets.ISO_8859_1);
        for (int n = 0; n < lines.size(); n++) {
            Matcher head = MEMBER.matcher(lines.get(n));
            if (head.matches()) {
                int end = n;
                while (!lines.get(end).equals(head.group(1) + "}")) {
                    end++;
                }
                c.holds(lines.get(n).strip() + " is short", end - n < 60);
            }
        }
    }
}
