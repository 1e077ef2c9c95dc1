import java.io.IOException;
import java.lang.reflect.Method;
import java.lang.reflect.Modifier;
import java.nio.charset.StandardCharsets;
import java.nio.file.Files;
import java.nio.file.Path;
import java.util.ArrayList;
import java.util.Arrays;
import java.util.List;
import java.util.Set;
import java.util.TreeSet;
import java.util.regex.Matcher;
import java.util.regex.Pattern;

/** README.md, run line by line: each call answers what is said behind it, and none is left out. */
public final class ReadmeTest {
    private static final Path README = Path.of("README.md");
    private static final Pattern NEW = Pattern.compile("SownSeeds x = new SownSeeds\\(\\);");
    private static final Pattern TEXT = Pattern.compile("for \\(char letter : \"([^\"]*)\"\\.toCharArray\\(\\)\\) \\{");
    private static final Pattern CALL = Pattern.compile("x\\.(\\w+)\\(([^)]*)\\); +// (-?\\d+)(:.*)?");
    private static final Pattern NAME = Pattern.compile("\\b(\\w+)\\(");
    private static final Set<String> HANDLED = Set.of("x.write(letter);", "}", "");

    private final Checks c = new Checks();
    private SownSeeds x = new SownSeeds();

    public static void main(String[] args) throws IOException, ReflectiveOperationException {
        ReadmeTest t = new ReadmeTest();
        List<String> lines = Files.readAllLines(README, StandardCharsets.UTF_8);
        t.examples(lines);
        t.leavesNoneOut(lines);
        t.c.end();
    }

    private void examples(List<String> lines) throws ReflectiveOperationException {
        c.part("README.md");
        boolean isExample = false;
        for (String line : lines) {
            if (line.startsWith("```")) {
                isExample = line.equals("```java");
            } else if (isExample) {
                run(line.strip());
            }
        }
    }

    private void run(String line) throws ReflectiveOperationException {
        Matcher text = TEXT.matcher(line);
        Matcher call = CALL.matcher(line);
        if (NEW.matcher(line).matches()) {
            x = new SownSeeds();
        } else if (text.matches()) {
            Checks.write(x, text.group(1));
        } else if (call.matches()) {
            c.due(line, answer(call.group(1), call.group(2)), Integer.parseInt(call.group(3)));
        } else {
            c.holds("known: " + line, HANDLED.contains(line));
        }
    }

    private int answer(String name, String list) throws ReflectiveOperationException {
        List<Object> numbers = new ArrayList<>();
        for (String one : list.isEmpty() ? new String[0] : list.split(", ")) {
            numbers.add(number(one));
        }
        Class<?>[] types = new Class<?>[numbers.size()];
        Arrays.fill(types, int.class);
        return (Integer) SownSeeds.class.getMethod(name, types).invoke(x, numbers.toArray());
    }

    private static int number(String written) throws ReflectiveOperationException {
        String constant = "SownSeeds.";
        return written.startsWith(constant)
                ? SownSeeds.class.getField(written.substring(constant.length())).getInt(null)
                : Integer.parseInt(written);
    }

    private void leavesNoneOut(List<String> lines) {
        c.part("README.md leaves none out");
        Set<String> named = new TreeSet<>();
        Matcher names = NAME.matcher(String.join("\n", lines));
        while (names.find()) {
            named.add(names.group(1));
        }
        for (Method method : SownSeeds.class.getDeclaredMethods()) {
            if (Modifier.isPublic(method.getModifiers())) {
                c.holds(method.getName() + " is named", named.contains(method.getName()));
            }
        }
    }
}
