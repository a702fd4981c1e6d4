import java.io.IOException;
import java.lang.reflect.Method;
import java.lang.reflect.Modifier;
import java.nio.file.DirectoryStream;
import java.nio.file.Files;
import java.nio.file.Path;
import java.util.Map;
import java.util.Set;
import java.util.TreeMap;
import java.util.TreeSet;
import java.util.regex.Matcher;
import java.util.regex.Pattern;

/** README.md: its examples answer what stands behind them, in the class and in the model, and it leaves out no call. */
public final class ReadmeTest {
    private static final Pattern BLOCK = Pattern.compile("(?s)```java\n(.*?)```");
    private static final Pattern TEXT = Pattern.compile("String text = \"([^\"]*)\";.*");
    private static final Pattern CALL = Pattern.compile("a\\.(\\w+)\\(([^)]*)\\);\\s+// (-?\\d+)(:.*)?");
    private static final String NEW_OBJECT = "AlgebraLaws a = new AlgebraLaws();";
    private static final String[] TYPES_THE_TEXT = {
        "for (int i = 0; i < text.length(); i++) {", "a.type(text.charAt(i));", "}"};

    private final Checks checks = new Checks();
    private final String page;
    private final Map<String, Method> calls = new TreeMap<>();
    private final Set<String> shown = new TreeSet<>();
    private AlgebraLaws real;
    private Model model;
    private String text;

    private ReadmeTest(String page) {
        this.page = page;
        for (Method call : AlgebraLaws.class.getDeclaredMethods()) {
            if (Modifier.isPublic(call.getModifiers())) {
                calls.put(call.getName(), call);
            }
        }
    }

    public static void main(String[] args) throws IOException, ReflectiveOperationException {
        ReadmeTest test = new ReadmeTest(Files.readString(Path.of("README.md")));
        test.examples();
        test.everyCallIsShown();
        test.refusals();
        test.tests();
        test.checks.end();
    }

    private void examples() throws ReflectiveOperationException {
        checks.sentence("an example of calls with the answers that the document asks for");
        Matcher block = BLOCK.matcher(page);
        int blocks = 0;
        while (block.find()) {
            blocks++;
            real = null;
            text = "";
            for (String line : block.group(1).lines().toList()) {
                exampleLine(line.strip());
            }
        }
        checks.isTrue("examples are found: " + blocks, blocks >= 3);
    }

    private void exampleLine(String line) throws ReflectiveOperationException {
        Matcher told = TEXT.matcher(line);
        Matcher call = CALL.matcher(line);
        if (line.equals(NEW_OBJECT)) {
            real = new AlgebraLaws();
            model = new Model();
        } else if (told.matches()) {
            text = told.group(1);
        } else if (line.equals(TYPES_THE_TEXT[1])) {
            for (char letter : text.toCharArray()) {
                checks.due("type " + letter, real.type(letter), model.type(letter));
            }
        } else if (call.matches()) {
            answers(line, call.group(1), numbers(call.group(2)), Integer.parseInt(call.group(3)));
        } else {
            checks.isTrue("a line that can be read: " + line,
                line.isEmpty() || line.equals(TYPES_THE_TEXT[0]) || line.equals(TYPES_THE_TEXT[2]));
        }
    }

    private void answers(String line, String name, Object[] with, int due) throws ReflectiveOperationException {
        checks.isTrue("there is such a call: " + line, calls.containsKey(name));
        Method call = calls.get(name);
        shown.add(name);
        checks.due(line, (int) call.invoke(real, with), due);
        checks.due("the model: " + line,
            (int) Model.class.getDeclaredMethod(name, call.getParameterTypes()).invoke(model, with), due);
    }

    private static Object[] numbers(String list) {
        if (list.isBlank()) {
            return new Object[0];
        }
        String[] parts = list.split(",");
        Object[] all = new Object[parts.length];
        for (int i = 0; i < parts.length; i++) {
            all[i] = number(parts[i].strip());
        }
        return all;
    }

    private static int number(String word) {
        if (word.startsWith("'")) {
            return word.charAt(1);
        }
        return word.startsWith("0b") ? Integer.parseInt(word.substring(2), 2) : Integer.parseInt(word);
    }

    private void everyCallIsShown() {
        checks.sentence("how it is used: every call of the face has an example");
        for (String name : calls.keySet()) {
            checks.isTrue(name, shown.contains(name));
        }
    }

    private void refusals() {
        checks.sentence("what the refusals mean");
        tableHas("BAD", AlgebraLaws.BAD);
        tableHas("STATE", AlgebraLaws.STATE);
        tableHas("FULL", AlgebraLaws.FULL);
        tableHas("NONE", AlgebraLaws.NONE);
        checks.isTrue("which comes first", page.contains("first of `BAD`, `STATE`, `FULL`"));
    }

    private void tableHas(String name, int value) {
        checks.isTrue(name + " with its value", page.contains("| `" + name + "` | " + value + " |"));
    }

    private void tests() throws IOException {
        checks.sentence("how its tests are run");
        checks.isTrue(".ci/run", page.contains(".ci/run"));
        checks.isTrue("../shared/tests", page.contains("../shared/tests"));
        try (DirectoryStream<Path> own = Files.newDirectoryStream(Path.of("src/test/java"), "*Test.java")) {
            for (Path test : own) {
                checks.isTrue(test.toString(), page.contains(test.getFileName().toString()));
            }
        }
    }
}
